/** Promises 33 to 42: bodies and their acts, shelves, counts. */
public final class ActsTest {
    private static final int[] LENGTHS = {8, 16, 32, 64, 1};

    private ActsTest() {
    }

    public static void main(String[] args) {
        keepingBodies();
        acting();
        tracing();
        wrapping();
        notActing();
        keeping();
        rows();
        putting();
        elements();
        shifting();
        shiftingWrong();
        taking();
        counting();
        Due.end();
    }

    private static RoundPoint withBodies(int ahead) {
        RoundPoint x = new RoundPoint();
        for (int i = 0; i < ahead; i++) {
            x.body(0);
        }
        for (int kind = 0; kind < 7; kind++) {
            x.body(kind);
        }
        return x;
    }

    private static void keepingBodies() {
        RoundPoint x = new RoundPoint();
        Due.is("33 below", x.body(-1), RoundPoint.BAD);
        Due.is("33 above", x.body(7), RoundPoint.BAD);
        for (int i = 0; i < 50; i++) {
            Due.is("33 its number", x.body(i % 7), i);
        }
        Due.is("33 full", x.body(0), RoundPoint.FULL);
        Due.is("33 bad ahead of full", x.body(7), RoundPoint.BAD);
        Due.is("33 fifty", x.count(8), 50);
    }

    /** The body of that kind, its number 10 and the kind, does the act with 5: the answer and what ran. */
    private static void acting(int kind, int act, int answer, int... trace) {
        RoundPoint x = withBodies(10);
        String what = "34 kind " + kind + " act " + act;
        Due.is(what, x.act(10 + kind, act, 5), answer);
        Due.is(what + " ran", x.count(9), trace.length);
        for (int i = 0; i < trace.length; i++) {
            Due.is(what + " trace " + i, x.trace(i), trace[i]);
        }
        Due.is(what + " trace ends", x.trace(trace.length), RoundPoint.BAD);
    }

    private static void acting() {
        acting(0, 0, 15, 1);
        acting(0, 1, 30, 10, 1);
        acting(0, 2, 5 ^ 10, 11);
        acting(0, 3, 30 - (1 ^ 10), 2, 10, 1, 11);
        acting(1, 0, 19, 20, 1);
        acting(1, 1, 38, 10, 20, 1);
        acting(1, 2, 5 ^ 11, 11);
        acting(1, 3, 38 - (1 ^ 11), 2, 10, 20, 1, 11);
        acting(2, 0, 17, 1);
        acting(2, 1, -34, 30, 10, 1);
        acting(2, 2, 5 ^ 12, 11);
        acting(2, 3, -34 - (1 ^ 12), 2, 30, 10, 1, 11);
        acting(3, 0, 18, 1);
        acting(3, 1, -38, 41, 30, 10, 1);
        acting(3, 2, 3 * (5 ^ 13), 40, 11);
        acting(3, 3, -38 - 3 * (1 ^ 13), 2, 41, 30, 10, 1, 40, 11);
        acting(4, 0, 19, 1);
        acting(4, 1, 38, 10, 1);
        acting(4, 2, 5 ^ 14, 11);
        acting(4, 3, 38 - (1 ^ 14) ^ 5, 50, 2, 10, 1, 11);
        acting(5, 0, 46, 60, 20, 1);
        acting(5, 1, 92, 10, 60, 20, 1);
        acting(5, 2, (5 ^ 15) + 40, 61, 11, 60, 20, 1);
        acting(5, 3, 92 - ((1 ^ 15) + 40), 2, 10, 60, 20, 1, 61, 11, 60, 20, 1);
        acting(6, 0, 21, 1);
        acting(6, 1, 42 - (2 ^ 16), 70, 10, 1, 11);
        acting(6, 2, 5 ^ 16, 11);
        acting(6, 3, 42 - (2 ^ 16) - (1 ^ 16), 2, 70, 10, 1, 11, 11);
    }

    private static void tracing() {
        RoundPoint x = withBodies(0);
        Due.is("35 none yet", x.trace(0), RoundPoint.BAD);
        Due.is("42 none ran yet", x.count(9), 0);
        x.act(3, 3, 0);
        x.act(1, 0, 0);
        Due.is("35 of the latest act alone", x.trace(0), 20);
        Due.is("35 second", x.trace(1), 1);
        Due.is("35 no third", x.trace(2), RoundPoint.BAD);
        Due.is("35 below", x.trace(-1), RoundPoint.BAD);
        Due.is("35 far above", x.trace(24), RoundPoint.BAD);
        Due.is("42 two ran", x.count(9), 2);
    }

    private static void wrapping() {
        RoundPoint x = withBodies(0);
        int most = Integer.MAX_VALUE;
        Due.is("34 goes round", x.act(6, 0, most), most + 6);
        Due.is("34 twice", x.act(0, 1, most), -2);
        Due.is("34 turn", x.act(3, 1, most), -((most + 1 + 3) * 2));
        Due.is("34 turn wets", x.act(3, 2, Integer.MIN_VALUE), (Integer.MIN_VALUE ^ 3) * 3);
        Due.is("34 safe", x.act(5, 0, most - 4), (most - 4 + 5 + 3) * 2);
    }

    private static void notActing() {
        RoundPoint x = withBodies(0);
        int[][] wrong = {{7, 0}, {-1, 0}, {0, 4}, {0, -1}, {Integer.MIN_VALUE, 0}, {0, Integer.MAX_VALUE}};
        for (int[] w : wrong) {
            x.act(1, 0, 3);
            Due.is("34 no such", x.act(w[0], w[1], 3), 0);
            Due.is("34 no trace then", x.trace(0), RoundPoint.BAD);
            Due.is("34 none ran", x.count(9), 0);
        }
    }

    private static void keeping() {
        RoundPoint x = withBodies(0);
        Due.is("36 no such shelf", x.keep(6, 0), RoundPoint.BAD);
        Due.is("36 nor below", x.keep(-1, 0), RoundPoint.BAD);
        Due.is("36 no such body", x.keep(0, 7), RoundPoint.BAD);
        Due.is("36 nor below nothing", x.keep(0, -2), RoundPoint.BAD);
        Due.is("36 held nothing", x.taken(0, 0), -11);
        Due.is("36 a body", x.keep(0, 6), 1);
        Due.is("36 it is there", x.taken(0, 0), 6);
        Due.is("36 the wrong changes nothing", x.keep(0, 7), RoundPoint.BAD);
        Due.is("36 it is there still", x.taken(0, 6), 6);
        Due.is("36 nothing again", x.keep(0, -1), 1);
        Due.is("36 it is gone", x.taken(0, 0), -11);
        x.row(5, 0, 1);
        Due.is("36 over a row", x.keep(5, 0), 1);
        Due.is("36 no row now", x.put(5, 0, 1), -12);
    }

    private static void rows() {
        RoundPoint x = withBodies(0);
        int[][] wrong = {{-1, 0, 1}, {6, 0, 1}, {0, -1, 1}, {0, 5, 1}, {0, 0, 61}, {0, 5, -1}, {6, 0, -1}};
        for (int[] w : wrong) {
            Due.is("37 wrong", x.row(w[0], w[1], w[2]), RoundPoint.BAD);
        }
        Due.is("37 below none", x.row(0, 0, -1), -14);
        Due.is("37 far below", x.row(0, 4, Integer.MIN_VALUE), -14);
        Due.is("37 nothing came of it", x.put(0, 0, 1), -11);
        for (int sort = 0; sort < 5; sort++) {
            Due.is("37 most", x.row(0, sort, 60), 1);
            for (int i = 0; i < 60; i++) {
                Due.is("37 nought at first", x.element(0, i), 0);
            }
            Due.is("37 no more", x.element(0, 60), Long.MIN_VALUE);
            x.put(0, 59, 1);
        }
        Due.is("37 anew", x.row(0, 4, 60), 1);
        Due.is("37 nought again", x.element(0, 59), 0);
        Due.is("37 of none", x.row(0, 3, 0), 1);
        Due.is("37 has none", x.put(0, 0, 1), -13);
        x.keep(1, 0);
        Due.is("37 over a body", x.row(1, 0, 1), 1);
        Due.is("37 a row now", x.taken(1, 0), -12);
    }

    private static void putting() {
        RoundPoint x = withBodies(0);
        Due.is("38 no such shelf", x.put(6, 0, 1), RoundPoint.BAD);
        Due.is("38 nor below", x.put(-1, 0, 1), RoundPoint.BAD);
        Due.is("38 nothing", x.put(0, -1, 1), -11);
        x.keep(0, 0);
        Due.is("38 a body", x.put(0, -1, 1), -12);
        long[] values = {0, 1, -1, 2, 127, 128, 255, 256, 32767, 32768, 65536, 2147483647L, 2147483648L, 4294967296L,
            Long.MAX_VALUE, Long.MIN_VALUE, 0x123456789abcdef0L};
        for (int sort = 0; sort < 5; sort++) {
            x.row(0, sort, 3);
            Due.is("38 behind", x.put(0, 3, 1), -13);
            Due.is("38 ahead", x.put(0, -1, 1), -13);
            for (long v : values) {
                long due = sort == 4 ? (v == 0 ? 0 : 1) : v << 64 - LENGTHS[sort] >> 64 - LENGTHS[sort];
                Due.is("38 put", x.put(0, 1, v), 1);
                Due.is("38 kept of " + v + " in sort " + sort, x.element(0, 1), due);
            }
            Due.is("38 none beside", x.element(0, 0), 0);
            Due.is("38 none behind", x.element(0, 2), 0);
        }
    }

    private static void elements() {
        RoundPoint x = withBodies(0);
        Due.is("39 no such shelf", x.element(6, 0), Long.MIN_VALUE);
        Due.is("39 nor below", x.element(-1, 0), Long.MIN_VALUE);
        Due.is("39 nothing", x.element(0, 0), Long.MIN_VALUE);
        x.keep(0, 0);
        Due.is("39 a body", x.element(0, 0), Long.MIN_VALUE);
        x.row(0, 3, 2);
        x.put(0, 1, 77);
        Due.is("39 it", x.element(0, 1), 77);
        Due.is("39 behind", x.element(0, 2), Long.MIN_VALUE);
        Due.is("39 ahead", x.element(0, -1), Long.MIN_VALUE);
        Due.is("39 another shelf", x.element(1, 1), Long.MIN_VALUE);
    }

    private static RoundPoint numbered(int sort, int n) {
        RoundPoint x = withBodies(0);
        x.row(0, sort, n);
        for (int i = 0; i < n; i++) {
            x.put(0, i, i + 1);
        }
        return x;
    }

    private static void elementsAre(RoundPoint x, int shelf, long... due) {
        for (int i = 0; i < due.length; i++) {
            Due.is("40 element " + i, x.element(shelf, i), due[i]);
        }
    }

    private static void shifting() {
        RoundPoint x = numbered(1, 5);
        x.row(1, 1, 3);
        Due.is("40 to another", x.shift(0, 2, 1, 0, 2), 2);
        elementsAre(x, 1, 3, 4, 0);
        elementsAre(x, 0, 1, 2, 3, 4, 5);
        Due.is("40 all the rest", x.shift(0, 2, 1, 0, 3), 3);
        elementsAre(x, 1, 3, 4, 5);
        Due.is("40 on", x.shift(0, 0, 0, 1, 4), 4);
        elementsAre(x, 0, 1, 1, 2, 3, 4);
        Due.is("40 back", x.shift(0, 1, 0, 0, 4), 4);
        elementsAre(x, 0, 1, 2, 3, 4, 4);
        Due.is("40 none", x.shift(0, 0, 1, 0, 0), 0);
        Due.is("40 none at the end", x.shift(0, 5, 1, 3, 0), 0);
        Due.is("40 none behind the end", x.shift(0, 6, 1, 0, 0), -13);
        x.put(1, 0, 9);
        Due.is("40 apart from each other", x.element(0, 2), 3);
    }

    private static void shiftingWrong() {
        RoundPoint x = numbered(2, 5);
        x.row(1, 2, 3);
        x.row(2, 1, 3);
        x.keep(3, 0);
        x.keep(4, 1);
        Due.is("40 no such shelf", x.shift(6, 0, 0, 0, 1), RoundPoint.BAD);
        Due.is("40 nor below", x.shift(0, 0, -1, 0, 1), RoundPoint.BAD);
        Due.is("40 bad ahead of nothing", x.shift(5, 0, 6, 0, 1), RoundPoint.BAD);
        Due.is("40 from nothing", x.shift(5, 0, 0, 0, 1), -11);
        Due.is("40 to nothing", x.shift(0, 0, 5, 0, 1), -11);
        Due.is("40 nothing ahead of a body", x.shift(3, 0, 5, 0, 1), -11);
        Due.is("40 from a body", x.shift(3, 0, 0, 0, 1), -12);
        Due.is("40 to a body", x.shift(0, 0, 3, 0, 1), -12);
        Due.is("40 bodies both", x.shift(3, 0, 4, 0, 1), -12);
        Due.is("40 one body", x.shift(3, 0, 3, 0, 0), -12);
        Due.is("40 of unlike sorts", x.shift(0, 9, 2, 0, 1), -12);
        int[][] places = {{-1, 0, 1}, {0, -1, 1}, {5, 0, 1}, {0, 3, 1}, {3, 0, 3}, {0, 1, 3}, {0, 0, 4}, {0, 0, -1},
            {Integer.MAX_VALUE, 0, Integer.MAX_VALUE}, {1, 1, Integer.MAX_VALUE}, {0, 4, 0}};
        for (int[] p : places) {
            Due.is("40 a place that is not there", x.shift(0, p[0], 1, p[1], p[2]), -13);
        }
        elementsAre(x, 1, 0, 0, 0);
    }

    private static void taking() {
        RoundPoint x = withBodies(1);
        int[][] under = {{0}, {0, 1}, {0, 2}, {0, 2, 3}, {0, 4}, {0, 1, 5}, {0, 6}};
        for (int kind = 0; kind < 7; kind++) {
            x.keep(0, kind + 1);
            for (int k = 0; k < 7; k++) {
                boolean is = false;
                for (int u : under[kind]) {
                    is |= u == k;
                }
                Due.is("41 " + kind + " taken for " + k, x.taken(0, k), is ? kind : -12);
            }
        }
        Due.is("41 no such shelf", x.taken(6, 0), RoundPoint.BAD);
        Due.is("41 nor below", x.taken(-1, 0), RoundPoint.BAD);
        Due.is("41 no such kind", x.taken(0, 7), RoundPoint.BAD);
        Due.is("41 nor below none", x.taken(0, -1), RoundPoint.BAD);
        Due.is("41 bad ahead of nothing", x.taken(1, 7), RoundPoint.BAD);
        Due.is("41 nothing", x.taken(1, 0), -11);
        x.row(1, 0, 1);
        Due.is("41 a row", x.taken(1, 0), -12);
    }

    private static void counting() {
        RoundPoint x = Shore.of("0:0", 5, 5, 5);
        x.wind(0, 0, 1);
        x.wind(0, 0, 1);
        x.wind(0, 0, 1);
        x.way(1, 1000);
        x.way(1, 1000);
        x.way(1, 1000);
        x.way(1, 1000);
        x.way(1, 1000);
        x.feed(4, 0);
        x.feed(2, 0);
        for (int i = 0; i < 7; i++) {
            x.move(101);
        }
        x.mark(0);
        x.mark(1);
        for (int v = 10; v < 18; v++) {
            x.safe(0, v);
        }
        for (int i = 0; i < 9; i++) {
            x.body(5);
        }
        x.act(0, 3, 0);
        int[] due = {1, 4, 3, 5, 6, 7, 2, 8, 9, 10};
        for (int what = 0; what < due.length; what++) {
            Due.is("42 count " + what, x.count(what), due[what]);
        }
        Due.is("42 above", x.count(10), RoundPoint.BAD);
        Due.is("42 below", x.count(-1), RoundPoint.BAD);
        x.undo();
        Due.is("42 that may be undone", x.count(7), 7);
    }
}
