/** Promise 38: put: Element i of a ROW becomes v: 1. BAD, -11, -12, -13. */
public final class Promise38PutTest {
    private Promise38PutTest() {
    }

    public static void main(String[] args) {
        bytes();
        shorts();
        ints();
        longs();
        booleans();
        itsPlaceAlone();
        edgesOfTheRow();
        order();
        refused();
        Due.end();
    }

    private static void kept(int sort, long v, long due) {
        RoundPoint x = new RoundPoint();
        x.row(3, sort, 2);
        Due.is("38 put " + v + " in sort " + sort, x.put(3, 1, v), 1);
        Due.is("38 kept of " + v + " in sort " + sort, x.element(3, 1), due);
        Due.is("38 beside " + v + " in sort " + sort, x.element(3, 0), 0);
    }

    /** Its lowest bits: 8 of them. */
    private static void bytes() {
        kept(0, 127, 127);
        kept(0, 128, -128);
        kept(0, -128, -128);
        kept(0, -129, 127);
        kept(0, 255, -1);
        kept(0, 256, 0);
        kept(0, 257, 1);
        kept(0, Long.MAX_VALUE, -1);
        kept(0, Long.MIN_VALUE, 0);
        kept(0, 0x123456789abcdef7L, -9);
    }

    private static void shorts() {
        kept(1, 32767, 32767);
        kept(1, 32768, -32768);
        kept(1, -32768, -32768);
        kept(1, -32769, 32767);
        kept(1, 65535, -1);
        kept(1, 65536, 0);
        kept(1, 65637, 101);
        kept(1, Long.MAX_VALUE, -1);
        kept(1, Long.MIN_VALUE, 0);
        kept(1, 0x123456789abc7defL, 0x7def);
    }

    private static void ints() {
        kept(2, 2147483647L, 2147483647L);
        kept(2, 2147483648L, -2147483648L);
        kept(2, -2147483648L, -2147483648L);
        kept(2, -2147483649L, 2147483647L);
        kept(2, 4294967295L, -1);
        kept(2, 4294967296L, 0);
        kept(2, Long.MAX_VALUE, -1);
        kept(2, Long.MIN_VALUE, 0);
    }

    private static void longs() {
        kept(3, 1, 1);
        kept(3, -1, -1);
        kept(3, 4294967296L, 4294967296L);
        kept(3, Long.MAX_VALUE, Long.MAX_VALUE);
        kept(3, Long.MIN_VALUE + 1, Long.MIN_VALUE + 1);
        kept(3, Long.MIN_VALUE, Long.MIN_VALUE);
    }

    /** Whether it is not 0. */
    private static void booleans() {
        kept(4, 0, 0);
        kept(4, 1, 1);
        kept(4, 2, 1);
        kept(4, -1, 1);
        kept(4, 256, 1);
        kept(4, 4294967296L, 1);
        kept(4, Long.MIN_VALUE, 1);
    }

    private static void itsPlaceAlone() {
        RoundPoint x = new RoundPoint();
        x.row(0, 2, 60);
        x.row(1, 2, 60);
        for (int i = 0; i < 60; i++) {
            x.put(0, i, 100 + i);
        }
        x.put(0, 30, 7);
        for (int i = 0; i < 60; i++) {
            Due.is("38 at " + i, x.element(0, i), i == 30 ? 7 : 100 + i);
            Due.is("38 on another shelf at " + i, x.element(1, i), 0);
        }
        x.put(0, 30, 0);
        Due.is("38 nought again", x.element(0, 30), 0);
    }

    private static void edgesOfTheRow() {
        for (int n : new int[] {1, 5, 60}) {
            RoundPoint x = new RoundPoint();
            x.row(0, 2, n);
            Due.is("38 the first of " + n, x.put(0, 0, 1), 1);
            Due.is("38 the last of " + n, x.put(0, n - 1, 1), 1);
            Due.is("38 behind the last of " + n, x.put(0, n, 1), -13);
            Due.is("38 ahead of the first of " + n, x.put(0, -1, 1), -13);
        }
        RoundPoint x = new RoundPoint();
        x.row(0, 2, 0);
        Due.is("38 of none", x.put(0, 0, 1), -13);
    }

    private static void order() {
        RoundPoint x = Shore.some();
        Due.is("38 bad ahead of all", x.put(6, -1, 1), RoundPoint.BAD);
        Due.is("38 nothing ahead of no place", x.put(4, -1, 1), -11);
        Due.is("38 another kind ahead of no place", x.put(0, -1, 1), -12);
    }

    private static void refused() {
        Refused.some("38 no such shelf", RoundPoint.BAD, x -> x.put(-1, 0, 1), x -> x.put(6, 0, 1),
            x -> x.put(Integer.MAX_VALUE, 0, 1), x -> x.put(Integer.MIN_VALUE, 0, 1));
        Refused.some("38 nothing", -11, x -> x.put(4, 0, 1), x -> x.put(4, 60, 1));
        Refused.some("38 a body", -12, x -> x.put(0, 0, 1), x -> x.put(0, 60, 1));
        Refused.some("38 no such place", -13, x -> x.put(1, 4, 1), x -> x.put(1, -1, 1), x -> x.put(2, 3, 1),
            x -> x.put(3, 59, 1), x -> x.put(5, 2, 1), x -> x.put(1, Integer.MAX_VALUE, 1), x -> x.put(1, Integer.MIN_VALUE, 1));
    }
}
