/** Promise 12: takes: What a WAY TAKES by a SORT, WEARY so much (0 .. 3). BAD. */
public final class Promise12TakesTest {
    private Promise12TakesTest() {
    }

    public static void main(String[] args) {
        up();
        wearier();
        shortest();
        longest();
        asThePlanTakesIt();
        refused();
        Due.end();
    }

    private static int takes(int minutes, int hundredths, int weary) {
        RoundPoint x = Shore.strait("0:0", 0, 1000 * minutes);
        x.sort(0, hundredths);
        return x.takes(0, 0, weary);
    }

    private static void up() {
        Due.is("12 even", takes(20, 55, 0), 11);
        Due.is("12 a hundredth more is up", takes(20, 56, 0), 12);
        Due.is("12 a hundredth less is up", takes(20, 54, 0), 11);
        Due.is("12 just above a minute", takes(1, 101, 0), 2);
        Due.is("12 just a minute", takes(1, 100, 0), 1);
        Due.is("12 just below", takes(1, 99, 0), 1);
        for (int minutes = 1; minutes <= 90; minutes++) {
            RoundPoint x = Shore.strait("0:0", 0, 1000 * minutes);
            int[] hundredths = {100, 80, 150, 300};
            for (int sort = 0; sort < 4; sort++) {
                for (int weary = 0; weary < 4; weary++) {
                    int due = (int) Math.ceil(minutes * (hundredths[sort] + 10 * weary) / 100.0);
                    Due.is("12 minutes " + minutes + " sort " + sort + " weary " + weary, x.takes(0, sort, weary), due);
                }
            }
        }
    }

    private static void wearier() {
        for (int weary = 0; weary < 4; weary++) {
            Due.is("12 weary " + weary, takes(50, 100, weary), 50 + 5 * weary);
        }
        Due.is("12 up by weariness", takes(11, 100, 1), 13);
        Due.is("12 even by weariness", takes(10, 100, 1), 11);
    }

    private static void shortest() {
        Due.is("12 half a minute is one", takes(1, 50, 0), 1);
        Due.is("12 weary still one", takes(1, 50, 3), 1);
        Due.is("12 two halves", takes(2, 50, 0), 1);
        Due.is("12 three halves", takes(3, 50, 0), 2);
    }

    private static void longest() {
        Due.is("12 the longest", takes(90, 400, 0), 360);
        Due.is("12 the longest, weariest", takes(90, 400, 3), 387);
    }

    private static void asThePlanTakesIt() {
        RoundPoint x = Shore.strait("0:0", 0, 33000);
        Shore.plan(x, 0, 0, 0, 0, 0);
        int due = x.takes(0, 1, 0) + x.takes(0, 1, 1) + x.takes(0, 1, 2) + 2 * x.takes(0, 1, 3);
        Due.is("12 by hand", due, 27 + 30 + 33 + 2 * 37);
        Due.is("12 by a plan", x.judge(0, 10, 0, 1), due);
    }

    private static void refused() {
        RoundPoint x = Shore.full();
        Due.is("12 the last way", x.takes(23, 0, 0), 24);
        Due.is("12 the last sort", x.takes(23, 3, 0), 72);
        Refused.some("12 wrong", RoundPoint.BAD, y -> y.takes(-1, 0, 0), y -> y.takes(4, 0, 0), y -> y.takes(0, -1, 0),
            y -> y.takes(0, 4, 0), y -> y.takes(0, 0, -1), y -> y.takes(0, 0, 4), y -> y.takes(Integer.MAX_VALUE, 0, 0),
            y -> y.takes(Integer.MIN_VALUE, 0, 0), y -> y.takes(0, Integer.MAX_VALUE, 0),
            y -> y.takes(0, Integer.MIN_VALUE, 0), y -> y.takes(0, 0, Integer.MAX_VALUE),
            y -> y.takes(0, 0, Integer.MIN_VALUE));
        Refused.full("12 wrong, full", RoundPoint.BAD, y -> y.takes(24, 3, 3), y -> y.takes(23, 4, 3));
    }
}
