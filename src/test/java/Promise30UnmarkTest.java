/** Promise 30: unmark: Marks are none: how many there were. */
public final class Promise30UnmarkTest {
    private Promise30UnmarkTest() {
    }

    public static void main(String[] args) {
        none();
        oneToSix();
        nothingElse();
        Due.end();
    }

    private static void none() {
        RoundPoint x = new RoundPoint();
        Due.is("30 none", x.unmark(), 0);
        Due.is("30 none again", x.unmark(), 0);
    }

    private static void oneToSix() {
        RoundPoint x = Shore.of("0:0", 0);
        for (int were = 1; were <= 6; were++) {
            for (int i = 0; i < were; i++) {
                x.mark(1000 - 100 * were + i);
            }
            Due.is("30 there were " + were, x.unmark(), were);
            Due.is("30 none are left of " + were, x.count(6), 0);
            Due.is("30 too few behind " + were, x.old(0), RoundPoint.STATE);
        }
        Due.is("30 a mark ahead of all those", x.mark(0), 1);
    }

    private static void nothingElse() {
        RoundPoint x = Shore.some();
        RoundPoint y = Shore.some();
        Due.is("30 three", x.unmark(), 3);
        for (int what = 0; what < 10; what++) {
            Due.is("30 count " + what, x.count(what), what == 6 ? 0 : y.count(what));
        }
        Refused.on(() -> {
            RoundPoint z = Shore.some();
            z.unmark();
            return z;
        }, "30 of none changes nothing", 0, z -> z.unmark());
    }
}
