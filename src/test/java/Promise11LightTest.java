/** Promise 11: light: Dawn (what 0), dark (1) becomes v: what it was. BAD (dawn above dark). */
public final class Promise11LightTest {
    private Promise11LightTest() {
    }

    public static void main(String[] args) {
        fromNoughtTo1439();
        dawnNotAboveDark();
        lastBetweenThem();
        noChange();
        refused();
        Due.end();
    }

    private static void fromNoughtTo1439() {
        RoundPoint x = new RoundPoint();
        Due.is("11 dawn below", x.light(0, -1), RoundPoint.BAD);
        Due.is("11 dawn above", x.light(0, 1440), RoundPoint.BAD);
        Due.is("11 dawn at the end", x.light(0, 1439), 0);
        Due.is("11 dawn at the beginning", x.light(0, 0), 1439);
        Due.is("11 dark below", x.light(1, -1), RoundPoint.BAD);
        Due.is("11 dark above", x.light(1, 1440), RoundPoint.BAD);
        Due.is("11 dark at the beginning", x.light(1, 0), 1439);
        Due.is("11 dark at the end", x.light(1, 1439), 0);
    }

    private static void dawnNotAboveDark() {
        RoundPoint x = new RoundPoint();
        x.light(1, 700);
        Due.is("11 dawn above dark", x.light(0, 701), RoundPoint.BAD);
        Due.is("11 dawn as dark", x.light(0, 700), 0);
        Due.is("11 dark below dawn", x.light(1, 699), RoundPoint.BAD);
        Due.is("11 dark as it is", x.light(1, 700), 700);
        Due.is("11 dark above dawn", x.light(1, 701), 700);
        Due.is("11 dawn as dark again", x.light(0, 701), 700);
    }

    private static void lastBetweenThem() {
        RoundPoint x = Shore.strait("0:0", 0, 10000);
        x.light(1, 700);
        Due.is("11 there just by dark", x.last(1, 0, 1), 690);
        x.light(0, 690);
        Due.is("11 started just at dawn", x.last(1, 0, 1), 690);
        x.light(0, 691);
        Due.is("11 dawn too late", x.last(1, 0, 1), RoundPoint.NOT);
        x.light(0, 700);
        Due.is("11 no light at all", x.last(1, 0, 1), RoundPoint.NOT);
    }

    /** Dawn and dark are none of the CHANGES that can be UNDONE. */
    private static void noChange() {
        RoundPoint x = Shore.strait("0:0", 0, 10000);
        x.light(0, 5);
        x.light(1, 1000);
        Due.is("11 none to be undone", x.count(7), 0);
        Due.is("11 none undone", x.undo(), RoundPoint.STATE);
        x.safe(0, 7);
        x.undo();
        x.light(0, 6);
        Due.is("11 none comes behind those undone", x.redo(), 0);
        Due.is("11 dawn stays", x.light(0, 6), 6);
    }

    private static void refused() {
        Refused.some("11 wrong", RoundPoint.BAD, x -> x.light(-1, 50), x -> x.light(2, 50), x -> x.light(0, -1),
            x -> x.light(0, 1440), x -> x.light(1, -1), x -> x.light(1, 1440), x -> x.light(0, 1301), x -> x.light(1, 19),
            x -> x.light(Integer.MAX_VALUE, 50), x -> x.light(Integer.MIN_VALUE, 50), x -> x.light(0, Integer.MIN_VALUE),
            x -> x.light(1, Integer.MAX_VALUE));
    }
}
