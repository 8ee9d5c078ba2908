/** Promise 33: body: A BODY of a KIND (0 .. 6) is kept: its number. BAD, FULL. */
public final class Promise33BodyTest {
    private Promise33BodyTest() {
    }

    public static void main(String[] args) {
        kindsFromNoughtTo6();
        fiftyAtMost();
        keepsItsKind();
        refused();
        Due.end();
    }

    private static void kindsFromNoughtTo6() {
        RoundPoint x = new RoundPoint();
        Due.is("33 below", x.body(-1), RoundPoint.BAD);
        for (int kind = 0; kind <= 6; kind++) {
            Due.is("33 kind " + kind, x.body(kind), kind);
        }
        Due.is("33 above", x.body(7), RoundPoint.BAD);
        Due.is("33 seven", x.count(8), 7);
    }

    private static void fiftyAtMost() {
        RoundPoint x = new RoundPoint();
        for (int n = 0; n < 50; n++) {
            Due.is("33 body " + n, x.body((n + 3) % 7), n);
        }
        Due.is("33 a fifty-first", x.body(0), RoundPoint.FULL);
        Due.is("33 fifty", x.count(8), 50);
        Due.is("33 bad ahead of full", x.body(7), RoundPoint.BAD);
        Due.is("33 bad ahead of full, below", x.body(-1), RoundPoint.BAD);
        Due.is("33 the last one acts", x.act(49, 2, 0), (49 + 3) % 7 == 3 ? 3 * 49 : 49);
        Due.is("33 no fifty-first acts", x.act(50, 2, 0), 0);
    }

    private static void keepsItsKind() {
        RoundPoint x = new RoundPoint();
        for (int n = 0; n < 50; n++) {
            x.body(n * 5 % 7);
        }
        for (int n = 0; n < 50; n++) {
            x.keep(0, n);
            Due.is("33 kind of " + n, x.taken(0, 0), n * 5 % 7);
        }
    }

    private static void refused() {
        Refused.some("33 wrong", RoundPoint.BAD, x -> x.body(-1), x -> x.body(7), x -> x.body(Integer.MAX_VALUE),
            x -> x.body(Integer.MIN_VALUE));
        Refused.full("33 full", RoundPoint.FULL, x -> x.body(0), x -> x.body(6));
        Refused.full("33 wrong, full", RoundPoint.BAD, x -> x.body(7), x -> x.body(-1));
    }
}
