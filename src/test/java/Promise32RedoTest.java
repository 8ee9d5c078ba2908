/** Promise 32: redo: DONE AGAIN: how many may still be. STATE: none. */
public final class Promise32RedoTest {
    private Promise32RedoTest() {
    }

    public static void main(String[] args) {
        none();
        everyKindOfChange();
        inTheirOrder();
        noOtherBehind();
        sameNumberIsNoOther();
        refusedIsNoOther();
        othersAreNone();
        fortyAtMost();
        refused();
        Due.end();
    }

    private static void none() {
        RoundPoint x = new RoundPoint();
        Due.is("32 none", x.redo(), RoundPoint.STATE);
        x.sort(0, 111);
        Due.is("32 none undone", x.redo(), RoundPoint.STATE);
        x.undo();
        Due.is("32 one", x.redo(), 0);
        Due.is("32 done again", x.sort(0, 111), 111);
        Due.is("32 none again", x.redo(), RoundPoint.STATE);
    }

    private static void everyKindOfChange() {
        RoundPoint x = Shore.strait("0:0", 5, 10006);
        x.alter(0, 0, 7);
        x.alter(0, 1, 8);
        x.alter(0, 2, 9);
        x.safe(1, 10);
        x.sort(3, 55);
        for (int i = 0; i < 5; i++) {
            x.undo();
        }
        for (int left = 4; left >= 0; left--) {
            Due.is("32 of each kind", x.redo(), left);
        }
        Due.is("32 height", x.alter(0, 0, 7), 7);
        Due.is("32 first hour", x.alter(0, 1, 8), 8);
        Due.is("32 last hour", x.alter(0, 2, 9), 9);
        Due.is("32 safe", x.safe(1, 10), 10);
        Due.is("32 hundredths", x.sort(3, 55), 55);
        Due.is("32 they may be undone", x.count(7), 5);
    }

    private static void inTheirOrder() {
        RoundPoint x = Shore.of("0:0", 5, 6);
        x.safe(0, 10);
        x.safe(1, 11);
        x.safe(0, 12);
        x.undo();
        x.undo();
        Due.is("32 one more", x.redo(), 1);
        Due.is("32 the one undone last", x.safe(1, 11), 11);
        Due.is("32 not the next yet", x.safe(0, 10), 10);
        Due.is("32 none more", x.redo(), 0);
        Due.is("32 the next", x.safe(0, 12), 12);
        x.undo();
        x.undo();
        x.undo();
        Due.is("32 two more", x.redo(), 2);
        Due.is("32 the first of all", x.safe(0, 10), 10);
    }

    private static void noOtherBehind() {
        RoundPoint x = Shore.of("0:0", 5, 6);
        x.safe(0, 10);
        x.safe(0, 11);
        x.undo();
        x.undo();
        x.safe(1, 7);
        Due.is("32 another came behind", x.redo(), RoundPoint.STATE);
        Due.is("32 the other alone", x.count(7), 1);
        x.undo();
        Due.is("32 the other again", x.redo(), 0);
        Due.is("32 nothing of the old", x.safe(0, 5), 5);
        // telling the very number that was undone is another too
        RoundPoint y = Shore.of("0:0", 5);
        y.safe(0, 10);
        y.safe(0, 11);
        y.undo();
        y.undo();
        y.safe(0, 10);
        Due.is("32 told the same as undone", y.redo(), RoundPoint.STATE);
    }

    private static void sameNumberIsNoOther() {
        RoundPoint x = Shore.strait("0:0", 5, 10006);
        x.safe(0, 10);
        x.undo();
        x.safe(0, 5);
        x.alter(0, 0, 6);
        x.alter(0, 1, 0);
        x.alter(0, 2, 1439);
        x.sort(2, 150);
        Due.is("32 the same numbers between", x.redo(), 0);
        Due.is("32 done again", x.safe(0, 10), 10);
    }

    private static void refusedIsNoOther() {
        RoundPoint x = Shore.strait("0:0", 5, 10006);
        x.safe(0, 10);
        x.undo();
        x.safe(0, 1000);
        x.safe(2, 7);
        x.alter(0, 0, 1000);
        x.alter(0, 3, 7);
        x.sort(0, 49);
        Due.is("32 refused ones between", x.redo(), 0);
        Due.is("32 done again", x.safe(0, 10), 10);
    }

    private static void othersAreNone() {
        RoundPoint x = Shore.strait("0:0", 5, 10006);
        x.safe(0, 10);
        x.undo();
        x.light(1, 50);
        x.place(7);
        x.way(2, 1000);
        x.wind(1, 1, 1);
        Shore.tide(x, "0:7");
        x.move(0);
        x.drop();
        x.mark(0);
        x.unmark();
        Due.is("32 others between", x.redo(), 0);
        Due.is("32 done again", x.safe(0, 10), 10);
    }

    private static void fortyAtMost() {
        RoundPoint x = new RoundPoint();
        x.place(0);
        for (int v = 1; v <= 50; v++) {
            x.safe(0, v);
        }
        for (int i = 0; i < 40; i++) {
            x.undo();
        }
        for (int left = 39; left >= 0; left--) {
            Due.is("32 of forty, left", x.redo(), left);
            Due.is("32 of forty, to", x.safe(0, 50 - left), 50 - left);
        }
        Due.is("32 no more of forty", x.redo(), RoundPoint.STATE);
        Due.is("32 forty may be undone", x.count(7), 40);
    }

    private static void refused() {
        Refused.on(() -> {
            RoundPoint x = Shore.some();
            x.redo();
            x.redo();
            return x;
        }, "32 none, all done again", RoundPoint.STATE, x -> x.redo(), x -> x.redo());
        Refused.full("32 none undone", RoundPoint.STATE, x -> x.redo());
    }
}
