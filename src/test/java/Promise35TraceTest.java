/** Promise 35: trace: THE TRACE's i-th body. BAD. */
public final class Promise35TraceTest {
    private Promise35TraceTest() {
    }

    public static void main(String[] args) {
        noActYet();
        asTheyBegan();
        ofTheLatestActAlone();
        edges();
        refused();
        Due.end();
    }

    private static void noActYet() {
        RoundPoint x = new RoundPoint();
        x.body(5);
        for (int i = -1; i < 25; i++) {
            Due.is("35 none yet " + i, x.trace(i), RoundPoint.BAD);
        }
    }

    private static void ran(RoundPoint x, int kind, int act, int... due) {
        x.act(kind, act, 9);
        for (int i = 0; i < due.length; i++) {
            Due.is("35 kind " + kind + " act " + act + " at " + i, x.trace(i), due[i]);
        }
        for (int i = due.length; i < 26; i++) {
            Due.is("35 kind " + kind + " act " + act + " behind, at " + i, x.trace(i), RoundPoint.BAD);
        }
    }

    /** The numbers of the bodies, from the outer one on. */
    private static void asTheyBegan() {
        int[][][] due = {
            {{1}, {10, 1}, {11}, {2, 10, 1, 11}},
            {{20, 1}, {10, 20, 1}, {11}, {2, 10, 20, 1, 11}},
            {{1}, {30, 10, 1}, {11}, {2, 30, 10, 1, 11}},
            {{1}, {41, 30, 10, 1}, {40, 11}, {2, 41, 30, 10, 1, 40, 11}},
            {{1}, {10, 1}, {11}, {50, 2, 10, 1, 11}},
            {{60, 20, 1}, {10, 60, 20, 1}, {61, 11, 60, 20, 1}, {2, 10, 60, 20, 1, 61, 11, 60, 20, 1}},
            {{1}, {70, 10, 1, 11}, {11}, {2, 70, 10, 1, 11, 11}},
        };
        for (int kind = 0; kind < 7; kind++) {
            RoundPoint x = new RoundPoint();
            for (int k = 0; k < 7; k++) {
                x.body(k);
            }
            for (int act = 0; act < 4; act++) {
                ran(x, kind, act, due[kind][act]);
            }
        }
    }

    private static void ofTheLatestActAlone() {
        RoundPoint x = new RoundPoint();
        x.body(5);
        x.act(0, 3, 1);
        Due.is("35 ten ran", x.trace(9), 1);
        x.act(0, 0, 1);
        Due.is("35 three ran", x.trace(2), 1);
        Due.is("35 nothing of the act ahead", x.trace(3), RoundPoint.BAD);
        x.act(0, 0, 1);
        Due.is("35 the same again does not add up", x.trace(3), RoundPoint.BAD);
        x.act(1, 0, 1);
        Due.is("35 nothing of one that is not there", x.trace(0), RoundPoint.BAD);
    }

    private static void edges() {
        RoundPoint x = Shore.some();
        Due.is("35 the first", x.trace(0), 2);
        Due.is("35 the last", x.trace(9), 1);
        Due.is("35 behind the last", x.trace(10), RoundPoint.BAD);
        Due.is("35 ahead of the first", x.trace(-1), RoundPoint.BAD);
    }

    private static void refused() {
        Refused.some("35 wrong", RoundPoint.BAD, x -> x.trace(-1), x -> x.trace(10), x -> x.trace(23), x -> x.trace(24),
            x -> x.trace(Integer.MAX_VALUE), x -> x.trace(Integer.MIN_VALUE));
    }
}
