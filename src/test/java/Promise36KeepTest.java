/** Promise 36: keep: A SHELF holds nothing (body -1), or a BODY: 1. BAD. */
public final class Promise36KeepTest {
    private Promise36KeepTest() {
    }

    public static void main(String[] args) {
        shelvesFromNoughtTo5();
        bodiesThatAreThere();
        nothing();
        overWhatItHeld();
        oneBodyOnSeveral();
        refused();
        Due.end();
    }

    private static RoundPoint bodies() {
        RoundPoint x = new RoundPoint();
        for (int kind = 0; kind < 7; kind++) {
            x.body(kind);
        }
        return x;
    }

    private static void shelvesFromNoughtTo5() {
        RoundPoint x = bodies();
        for (int shelf = 0; shelf < 6; shelf++) {
            Due.is("36 shelf " + shelf, x.keep(shelf, 6 - shelf), 1);
        }
        for (int shelf = 0; shelf < 6; shelf++) {
            Due.is("36 held on " + shelf, x.taken(shelf, 0), 6 - shelf);
        }
        Due.is("36 no shelf 6", x.keep(6, 0), RoundPoint.BAD);
        Due.is("36 no shelf below", x.keep(-1, 0), RoundPoint.BAD);
        Due.is("36 nor for nothing", x.keep(6, -1), RoundPoint.BAD);
    }

    private static void bodiesThatAreThere() {
        RoundPoint x = new RoundPoint();
        Due.is("36 none yet", x.keep(0, 0), RoundPoint.BAD);
        x.body(4);
        Due.is("36 the first", x.keep(0, 0), 1);
        Due.is("36 no second", x.keep(0, 1), RoundPoint.BAD);
        Due.is("36 the first is held still", x.taken(0, 0), 4);
        RoundPoint full = Shore.full();
        Due.is("36 the last of fifty", full.keep(5, 49), 1);
        Due.is("36 its kind", full.taken(5, 0), 0);
        Due.is("36 no fifty-first", full.keep(5, 50), RoundPoint.BAD);
    }

    private static void nothing() {
        RoundPoint x = bodies();
        Due.is("36 nothing, held nothing", x.keep(0, -1), 1);
        Due.is("36 nothing is there", x.taken(0, 0), -11);
        x.keep(0, 3);
        Due.is("36 nothing, held a body", x.keep(0, -1), 1);
        Due.is("36 the body is gone", x.taken(0, 0), -11);
        x.row(0, 1, 5);
        Due.is("36 nothing, held a row", x.keep(0, -1), 1);
        Due.is("36 the row is gone", x.put(0, 0, 1), -11);
        Due.is("36 below nothing", x.keep(0, -2), RoundPoint.BAD);
        Due.is("36 without a body at all", new RoundPoint().keep(5, -1), 1);
    }

    private static void overWhatItHeld() {
        RoundPoint x = bodies();
        x.keep(0, 1);
        Due.is("36 another body", x.keep(0, 2), 1);
        Due.is("36 it is held", x.taken(0, 2), 2);
        x.row(0, 3, 60);
        Due.is("36 a body over a row", x.keep(0, 5), 1);
        Due.is("36 it is held then", x.taken(0, 5), 5);
        Due.is("36 no row any more", x.put(0, 0, 1), -12);
    }

    private static void oneBodyOnSeveral() {
        RoundPoint x = bodies();
        x.keep(0, 3);
        x.keep(1, 3);
        x.keep(0, -1);
        Due.is("36 held on the other still", x.taken(1, 3), 3);
        Due.is("36 bodies as they were", x.count(8), 7);
    }

    private static void refused() {
        Refused.some("36 wrong", RoundPoint.BAD, x -> x.keep(-1, 0), x -> x.keep(6, 0), x -> x.keep(0, -2), x -> x.keep(0, 4),
            x -> x.keep(4, 4), x -> x.keep(1, 49), x -> x.keep(6, -1), x -> x.keep(Integer.MAX_VALUE, 0),
            x -> x.keep(Integer.MIN_VALUE, 0), x -> x.keep(0, Integer.MAX_VALUE), x -> x.keep(0, Integer.MIN_VALUE));
        Refused.full("36 wrong, full", RoundPoint.BAD, x -> x.keep(0, 50), x -> x.keep(6, 49));
    }
}
