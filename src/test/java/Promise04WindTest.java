/** Promise 4: wind: A WIND: its number. BAD, FULL: 5. */
public final class Promise04WindTest {
    private Promise04WindTest() {
    }

    public static void main(String[] args) {
        lifts();
        early();
        chance();
        fiveAtMost();
        refused();
        Due.end();
    }

    private static RoundPoint rising() {
        return Shore.strait("0:0;999:999", 999, 10999);
    }

    private static void lifts() {
        RoundPoint x = rising();
        Due.is("4 lifts -99", x.wind(-99, 0, 1), 1);
        Due.is("4 lifts 99", x.wind(99, 0, 1), 2);
        Due.is("4 lifts 0", x.wind(0, 0, 1), 3);
        Due.is("4 pressed", x.sea(0, 1, 500), 401);
        Due.is("4 lifted", x.sea(0, 2, 500), 599);
        Due.is("4 left", x.sea(0, 3, 500), 500);
    }

    private static void early() {
        RoundPoint x = rising();
        Due.is("4 early -60", x.wind(0, -60, 1), 1);
        Due.is("4 early 60", x.wind(0, 60, 1), 2);
        Due.is("4 late", x.sea(0, 1, 500), 440);
        Due.is("4 early", x.sea(0, 2, 500), 560);
    }

    private static void chance() {
        RoundPoint x = rising();
        Due.is("4 chance 1", x.wind(1, 0, 1), 1);
        Due.is("4 chance 99", x.wind(2, 0, 99), 2);
        Shore.plan(x, 0);
        // sea 989 .. 999 at most: still it goes, lifted not
        Due.is("4 chances 1 of 101", x.chance(989, 0), 9);
        Due.is("4 chances all", x.chance(5, 0), 1000);
    }

    private static void fiveAtMost() {
        RoundPoint x = rising();
        for (int wind = 1; wind < 5; wind++) {
            Due.is("4 wind " + wind, x.wind(7, 7, 7), wind);
        }
        Due.is("4 a sixth", x.wind(7, 7, 7), RoundPoint.FULL);
        Due.is("4 five", x.count(1), 5);
        Due.is("4 no sixth", x.sea(0, 5, 0), RoundPoint.VOID);
        Due.is("4 the fifth", x.sea(0, 4, 0), 14);
        Due.is("4 bad ahead of full", x.wind(100, 7, 7), RoundPoint.BAD);
    }

    private static void refused() {
        Refused.some("4 wrong", RoundPoint.BAD, x -> x.wind(-100, 0, 1), x -> x.wind(100, 0, 1), x -> x.wind(0, -61, 1),
            x -> x.wind(0, 61, 1), x -> x.wind(0, 0, 0), x -> x.wind(0, 0, 100), x -> x.wind(0, 0, -1),
            x -> x.wind(Integer.MIN_VALUE, 0, 1), x -> x.wind(Integer.MAX_VALUE, 0, 1),
            x -> x.wind(0, Integer.MIN_VALUE, 1), x -> x.wind(0, Integer.MAX_VALUE, 1),
            x -> x.wind(0, 0, Integer.MIN_VALUE), x -> x.wind(0, 0, Integer.MAX_VALUE));
        Refused.full("4 full", RoundPoint.FULL, x -> x.wind(99, 60, 99), x -> x.wind(0, 0, 1));
        Refused.full("4 wrong, full", RoundPoint.BAD, x -> x.wind(0, 0, 100), x -> x.wind(0, 61, 1));
    }
}
