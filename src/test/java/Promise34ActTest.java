/** Promise 34: act: An ACT (0 .. 3) of a BODY with x. 0, and no TRACE then: no such BODY, ACT. */
public final class Promise34ActTest {
    private static final int GOES = 0, WAITS = 1, WETS = 2, TELLS = 3;

    private Promise34ActTest() {
    }

    public static void main(String[] args) {
        plan();
        straight();
        waiting();
        turn();
        two();
        safe();
        told();
        wraps();
        numberOfTheBody();
        noSuchBody();
        noSuchAct();
        nothingElse();
        Due.end();
    }

    /** Of a BODY of this KIND, whose number n is 40 and the KIND. */
    private static int act(int kind, int act, int x) {
        RoundPoint point = new RoundPoint();
        for (int n = 0; n < 40; n++) {
            point.body((kind + 1) % 7);
        }
        for (int k = 0; k < 7; k++) {
            point.body(k);
        }
        return point.act(40 + kind, act, x);
    }

    private static void acts(int kind, int x, int goes, int waits, int wets, int tells) {
        Due.is("34 goes of " + kind + " with " + x, act(kind, GOES, x), goes);
        Due.is("34 waits of " + kind + " with " + x, act(kind, WAITS, x), waits);
        Due.is("34 wets of " + kind + " with " + x, act(kind, WETS, x), wets);
        Due.is("34 tells of " + kind + " with " + x, act(kind, TELLS, x), tells);
    }

    /** Numbers as they are tried, the ends of the ints among them: all sums here wrap as ints do. */
    private static final int[] TRIED = {0, 1, -1, 2, 41, 1000, -40, Integer.MAX_VALUE, Integer.MIN_VALUE, Integer.MAX_VALUE - 43,
        0x55555555, 1 << 30};

    private static void plan() {
        for (int x : TRIED) {
            int waits = (x + 40) * 2;
            acts(0, x, x + 40, waits, x ^ 40, waits - (1 ^ 40));
        }
    }

    private static void straight() {
        for (int x : TRIED) {
            int goes = x + 41 + 3;
            acts(1, x, goes, goes * 2, x ^ 41, goes * 2 - (1 ^ 41));
        }
    }

    private static void waiting() {
        for (int x : TRIED) {
            int waits = -((x + 42) * 2);
            acts(2, x, x + 42, waits, x ^ 42, waits - (1 ^ 42));
        }
    }

    private static void turn() {
        for (int x : TRIED) {
            int waits = -((x + 1 + 43) * 2);
            acts(3, x, x + 43, waits, (x ^ 43) * 3, waits - (1 ^ 43) * 3);
        }
    }

    private static void two() {
        for (int x : TRIED) {
            int waits = (x + 44) * 2;
            acts(4, x, x + 44, waits, x ^ 44, waits - (1 ^ 44) ^ 5);
        }
    }

    private static void safe() {
        int goesOf2 = (2 + 45 + 3) * 2;
        for (int x : TRIED) {
            int goes = (x + 45 + 3) * 2;
            acts(5, x, goes, goes * 2, (x ^ 45) + goesOf2, goes * 2 - ((1 ^ 45) + goesOf2));
        }
    }

    private static void told() {
        for (int x : TRIED) {
            int waits = (x + 46) * 2 - (2 ^ 46);
            acts(6, x, x + 46, waits, x ^ 46, waits - (1 ^ 46));
        }
    }

    private static void wraps() {
        Due.is("34 beyond the greatest", act(0, GOES, Integer.MAX_VALUE), Integer.MIN_VALUE + 39);
        Due.is("34 just the greatest", act(0, GOES, Integer.MAX_VALUE - 40), Integer.MAX_VALUE);
        Due.is("34 twice the least", act(0, WAITS, Integer.MIN_VALUE), 80);
        Due.is("34 less the least", act(2, WAITS, (1 << 30) - 42), Integer.MIN_VALUE);
        Due.is("34 thrice the greatest", act(3, WETS, Integer.MAX_VALUE ^ 43), Integer.MAX_VALUE - 2);
        Due.is("34 beyond the greatest ahead", act(3, WAITS, Integer.MAX_VALUE), -((Integer.MIN_VALUE + 43) * 2));
    }

    /** n is the number of the BODY. */
    private static void numberOfTheBody() {
        RoundPoint x = new RoundPoint();
        for (int n = 0; n < 50; n++) {
            x.body(0);
            Due.is("34 goes of body " + n, x.act(n, GOES, 1000), 1000 + n);
        }
        Due.is("34 the first still", x.act(0, GOES, 1000), 1000);
        Due.is("34 the last", x.act(49, WETS, 0), 49);
    }

    private static void noSuchBody() {
        int[] wrong = {-1, 4, 49, 50, Integer.MAX_VALUE, Integer.MIN_VALUE};
        for (int body : wrong) {
            nothingRuns(body, GOES);
            nothingRuns(body, TELLS);
        }
        Due.is("34 no body at all", new RoundPoint().act(0, GOES, 5), 0);
        Due.is("34 the last body there is", Shore.some().act(3, GOES, 5), 8);
    }

    private static void noSuchAct() {
        int[] wrong = {-1, 4, 10, Integer.MAX_VALUE, Integer.MIN_VALUE};
        for (int act : wrong) {
            nothingRuns(0, act);
            nothingRuns(3, act);
        }
    }

    private static void nothingRuns(int body, int act) {
        RoundPoint x = Shore.some();
        Due.is("34 ten ran ahead", x.count(9), 10);
        Due.is("34 no such " + body + " " + act, x.act(body, act, 5), 0);
        Due.is("34 no trace then", x.trace(0), RoundPoint.BAD);
        Due.is("34 none ran", x.count(9), 0);
    }

    private static void nothingElse() {
        RoundPoint x = Shore.some();
        RoundPoint y = Shore.some();
        x.act(1, TELLS, 7);
        x.act(9, 9, 9);
        for (int what = 0; what < 9; what++) {
            Due.is("34 count " + what, x.count(what), y.count(what));
        }
        Due.is("34 what is kept stays", x.taken(0, 0), 3);
    }
}
