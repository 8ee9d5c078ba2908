/** Promise 6: place: A PLACE: its number. BAD, FULL. */
public final class Promise06PlaceTest {
    private Promise06PlaceTest() {
    }

    public static void main(String[] args) {
        safeFromNoughtTo999();
        dryUpToSafe();
        twelveAtMost();
        refused();
        Due.end();
    }

    private static void safeFromNoughtTo999() {
        RoundPoint x = new RoundPoint();
        Due.is("6 below", x.place(-1), RoundPoint.BAD);
        Due.is("6 the least", x.place(0), 0);
        Due.is("6 the most", x.place(999), 1);
        Due.is("6 above", x.place(1000), RoundPoint.BAD);
        Due.is("6 two came", x.count(2), 2);
        Due.is("6 the least is told", x.safe(0, 5), 0);
        Due.is("6 the most is told", x.safe(1, 5), 999);
    }

    /** DRY as long as THE SEA is at most SAFE. */
    private static void dryUpToSafe() {
        RoundPoint x = Shore.of("0:50", 50, 49, 51);
        Shore.plan(x, 101);
        Due.is("6 at just SAFE", x.judge(0, 0, 0, 0), RoundPoint.NOT);
        Due.is("6 above SAFE", x.judge(10000, 0, 0, 0), 0);
        Due.is("6 below SAFE", x.judge(20000, 0, 0, 0), RoundPoint.NOT);
    }

    private static void twelveAtMost() {
        RoundPoint x = Shore.of("0:5");
        for (int place = 0; place < 12; place++) {
            Due.is("6 place " + place, x.place(10 + place), place);
        }
        Due.is("6 a thirteenth", x.place(10), RoundPoint.FULL);
        Due.is("6 twelve", x.count(2), 12);
        Due.is("6 bad ahead of full", x.place(1000), RoundPoint.BAD);
        Due.is("6 bad ahead of full, below", x.place(-1), RoundPoint.BAD);
        for (int place = 0; place < 12; place++) {
            Due.is("6 as told, place " + place, x.safe(place, 10 + place), 10 + place);
            Due.is("6 to be stood at, place " + place, x.soon(10000 * place + 3, place, 0, 1), 3);
        }
        Due.is("6 no thirteenth", x.safe(12, 5), RoundPoint.BAD);
    }

    private static void refused() {
        Refused.some("6 wrong", RoundPoint.BAD, x -> x.place(-1), x -> x.place(1000), x -> x.place(Integer.MAX_VALUE),
            x -> x.place(Integer.MIN_VALUE));
        Refused.full("6 full", RoundPoint.FULL, x -> x.place(0), x -> x.place(999));
        Refused.full("6 wrong, full", RoundPoint.BAD, x -> x.place(-1), x -> x.place(1000));
    }
}
