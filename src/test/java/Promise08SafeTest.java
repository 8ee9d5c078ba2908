/** Promise 8: safe: SAFE of a PLACE becomes v: what it was. BAD. */
public final class Promise08SafeTest {
    private Promise08SafeTest() {
    }

    public static void main(String[] args) {
        fromNoughtTo999();
        dryUpToIt();
        ofThisPlaceAlone();
        aChange();
        refused();
        Due.end();
    }

    private static void fromNoughtTo999() {
        RoundPoint x = Shore.of("0:0", 5);
        Due.is("8 the least", x.safe(0, 0), 5);
        Due.is("8 below", x.safe(0, -1), RoundPoint.BAD);
        Due.is("8 the most", x.safe(0, 999), 0);
        Due.is("8 above", x.safe(0, 1000), RoundPoint.BAD);
        Due.is("8 the same", x.safe(0, 999), 999);
        Due.is("8 as it was told", x.safe(0, 7), 999);
    }

    private static void dryUpToIt() {
        RoundPoint x = Shore.of("0:50", 0);
        Shore.plan(x, 101);
        x.safe(0, 49);
        Due.is("8 above SAFE", x.judge(0, 0, 0, 0), 0);
        x.safe(0, 50);
        Due.is("8 at just SAFE", x.judge(0, 0, 0, 0), RoundPoint.NOT);
    }

    private static void ofThisPlaceAlone() {
        RoundPoint x = new RoundPoint();
        for (int place = 0; place < 12; place++) {
            x.place(place);
        }
        Due.is("8 the first", x.safe(0, 100), 0);
        Due.is("8 the last", x.safe(11, 111), 11);
        for (int place = 1; place < 11; place++) {
            Due.is("8 beside it " + place, x.safe(place, place), place);
        }
        Due.is("8 no such", x.safe(12, 5), RoundPoint.BAD);
    }

    private static void aChange() {
        RoundPoint x = Shore.of("0:0", 5, 6);
        x.safe(0, 5);
        Due.is("8 the same number is none", x.count(7), 0);
        x.safe(0, 6);
        Due.is("8 another is one", x.count(7), 1);
        x.safe(1, 1000);
        Due.is("8 a wrong one is none", x.count(7), 1);
        x.undo();
        Due.is("8 undone", x.safe(0, 5), 5);
    }

    private static void refused() {
        Refused.some("8 wrong", RoundPoint.BAD, x -> x.safe(-1, 5), x -> x.safe(4, 5), x -> x.safe(0, -1),
            x -> x.safe(0, 1000), x -> x.safe(Integer.MAX_VALUE, 5), x -> x.safe(Integer.MIN_VALUE, 5),
            x -> x.safe(0, Integer.MAX_VALUE), x -> x.safe(0, Integer.MIN_VALUE));
        Refused.some("8 the same number changes nothing", 310, x -> x.safe(3, 310), x -> x.safe(3, 310));
        Refused.full("8 wrong, full", RoundPoint.BAD, x -> x.safe(12, 5), x -> x.safe(11, 1000));
    }
}
