/** Promise 28: mark: A mark OF OLD: how many. BAD (the MINUTE does not rise), FULL: 6. */
public final class Promise28MarkTest {
    private Promise28MarkTest() {
    }

    public static void main(String[] args) {
        minutesRise();
        edgesOfPlaceAndMinute();
        sixAtMost();
        refused();
        Due.end();
    }

    private static void minutesRise() {
        RoundPoint x = Shore.of("0:0", 0, 0, 0);
        Due.is("28 the first", x.mark(20500), 1);
        Due.is("28 the same minute", x.mark(500), RoundPoint.BAD);
        Due.is("28 the same mark", x.mark(20500), RoundPoint.BAD);
        Due.is("28 a minute ahead", x.mark(499), RoundPoint.BAD);
        Due.is("28 a minute ahead, a later place", x.mark(20499), RoundPoint.BAD);
        Due.is("28 a minute behind, a lesser place", x.mark(501), 2);
        Due.is("28 above the first, not above the second", x.mark(10501), RoundPoint.BAD);
        Due.is("28 a minute behind that", x.mark(10502), 3);
        Due.is("28 three", x.count(6), 3);
    }

    private static void edgesOfPlaceAndMinute() {
        RoundPoint x = Shore.of("0:0", 0, 0, 0);
        Due.is("28 no such place", x.mark(30000), RoundPoint.BAD);
        Due.is("28 no such minute", x.mark(1440), RoundPoint.BAD);
        Due.is("28 below", x.mark(-1), RoundPoint.BAD);
        Due.is("28 the first minute", x.mark(0), 1);
        Due.is("28 the last place and minute", x.mark(21439), 2);
        Due.is("28 no minute is left", x.mark(1439), RoundPoint.BAD);
        RoundPoint y = new RoundPoint();
        y.place(0);
        Due.is("28 without a tide too", y.mark(7), 1);
    }

    private static void sixAtMost() {
        RoundPoint x = Shore.of("0:0", 0, 0);
        for (int n = 1; n <= 6; n++) {
            Due.is("28 mark " + n, x.mark(100 * n), n);
        }
        Due.is("28 a seventh", x.mark(700), RoundPoint.FULL);
        Due.is("28 six", x.count(6), 6);
        Due.is("28 bad ahead of full: it does not rise", x.mark(600), RoundPoint.BAD);
        Due.is("28 bad ahead of full: no such place", x.mark(20700), RoundPoint.BAD);
        Due.is("28 full all the same", x.mark(10700), RoundPoint.FULL);
        x.unmark();
        Due.is("28 from the beginning again", x.mark(100), 1);
        Due.is("28 rising from that", x.mark(101), 2);
    }

    private static void refused() {
        Refused.some("28 wrong", RoundPoint.BAD, x -> x.mark(-1), x -> x.mark(1440), x -> x.mark(9999), x -> x.mark(40100),
            x -> x.mark(60), x -> x.mark(59), x -> x.mark(20060), x -> x.mark(Integer.MAX_VALUE), x -> x.mark(Integer.MIN_VALUE));
        Refused.full("28 full", RoundPoint.FULL, x -> x.mark(501), x -> x.mark(111439));
        Refused.full("28 wrong, full", RoundPoint.BAD, x -> x.mark(500), x -> x.mark(120600), x -> x.mark(1440));
    }
}
