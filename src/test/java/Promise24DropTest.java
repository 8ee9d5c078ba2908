/** Promise 24: drop: THE PLAN has no moves: how many it had. */
public final class Promise24DropTest {
    private Promise24DropTest() {
    }

    public static void main(String[] args) {
        none();
        oneToTwelve();
        nothingElse();
        Due.end();
    }

    private static void none() {
        RoundPoint x = new RoundPoint();
        Due.is("24 none", x.drop(), 0);
        Due.is("24 none again", x.drop(), 0);
    }

    private static void oneToTwelve() {
        RoundPoint x = Shore.of("0:0", 0);
        for (int had = 1; had <= 12; had++) {
            for (int i = 0; i < had; i++) {
                x.move(101);
            }
            Due.is("24 had " + had, x.drop(), had);
            Due.is("24 none are left of " + had, x.count(5), 0);
            Due.is("24 none to judge of " + had, x.judge(7, 0, 0, 1), 7);
        }
        Due.is("24 none behind it", x.drop(), 0);
    }

    private static void nothingElse() {
        RoundPoint x = Shore.some();
        RoundPoint y = Shore.some();
        Due.is("24 three", x.drop(), 3);
        for (int what = 0; what < 10; what++) {
            Due.is("24 count " + what, x.count(what), what == 5 ? 0 : y.count(what));
        }
        Refused.on(() -> {
            RoundPoint z = Shore.some();
            z.drop();
            return z;
        }, "24 of none changes nothing", 0, z -> z.drop());
    }
}
