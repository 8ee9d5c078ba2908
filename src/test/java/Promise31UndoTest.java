/** Promise 31: undo: UNDONE: how many may still be. STATE: none. */
public final class Promise31UndoTest {
    private Promise31UndoTest() {
    }

    public static void main(String[] args) {
        none();
        everyKindOfChange();
        latestFirst();
        sameNumberIsNone();
        refusedIsNone();
        othersAreNone();
        fortyAtMost();
        fortyOneTold();
        fortyOfAllKinds();
        afterUndoneAgain();
        refused();
        Due.end();
    }

    private static void none() {
        RoundPoint x = new RoundPoint();
        Due.is("31 none", x.undo(), RoundPoint.STATE);
        x.sort(0, 111);
        Due.is("31 one", x.undo(), 0);
        Due.is("31 none again", x.undo(), RoundPoint.STATE);
    }

    private static void everyKindOfChange() {
        RoundPoint x = Shore.strait("0:0", 5, 10006);
        x.alter(0, 0, 7);
        Due.is("31 height", x.undo(), 0);
        Due.is("31 height is back", x.alter(0, 0, 6), 6);
        x.alter(0, 1, 8);
        Due.is("31 first hour", x.undo(), 0);
        Due.is("31 first hour is back", x.alter(0, 1, 0), 0);
        x.alter(0, 2, 9);
        Due.is("31 last hour", x.undo(), 0);
        Due.is("31 last hour is back", x.alter(0, 2, 1439), 1439);
        x.safe(1, 10);
        Due.is("31 safe", x.undo(), 0);
        Due.is("31 safe is back", x.safe(1, 5), 5);
        x.sort(3, 55);
        Due.is("31 hundredths", x.undo(), 0);
        Due.is("31 hundredths are back", x.sort(3, 300), 300);
    }

    private static void latestFirst() {
        RoundPoint x = Shore.of("0:0", 5, 6);
        x.safe(0, 10);
        x.safe(1, 11);
        x.safe(0, 12);
        Due.is("31 two more", x.undo(), 2);
        Due.is("31 the latest first", x.safe(0, 10), 10);
        Due.is("31 one more", x.undo(), 1);
        Due.is("31 then the one ahead", x.safe(1, 6), 6);
        Due.is("31 the first stands still", x.safe(0, 10), 10);
        Due.is("31 none more", x.undo(), 0);
        Due.is("31 the first", x.safe(0, 5), 5);
    }

    private static void sameNumberIsNone() {
        RoundPoint x = Shore.strait("0:0", 5, 10006);
        x.alter(0, 0, 6);
        x.alter(0, 1, 0);
        x.alter(0, 2, 1439);
        x.safe(0, 5);
        x.sort(0, 100);
        Due.is("31 the same numbers", x.undo(), RoundPoint.STATE);
        x.safe(0, 7);
        x.safe(0, 7);
        Due.is("31 the same once more", x.undo(), 0);
        Due.is("31 back", x.safe(0, 5), 5);
    }

    private static void refusedIsNone() {
        RoundPoint x = Shore.strait("0:0", 5, 10006);
        x.alter(0, 0, 1000);
        x.alter(0, 1, 1440);
        x.alter(1, 2, 5);
        x.safe(0, 1000);
        x.sort(0, 401);
        Due.is("31 refused", x.undo(), RoundPoint.STATE);
    }

    private static void othersAreNone() {
        RoundPoint x = new RoundPoint();
        Shore.tide(x, "0:0");
        x.wind(1, 1, 1);
        x.place(5);
        x.place(5);
        x.way(1, 1000);
        x.light(0, 5);
        x.light(1, 50);
        x.move(0);
        x.mark(0);
        x.body(0);
        x.keep(0, 0);
        x.row(1, 1, 1);
        x.put(1, 0, 1);
        Due.is("31 others", x.undo(), RoundPoint.STATE);
        Due.is("31 they stay", x.count(5), 1);
    }

    private static RoundPoint told(int changes) {
        RoundPoint x = new RoundPoint();
        x.place(0);
        for (int v = 1; v <= changes; v++) {
            x.safe(0, v);
        }
        return x;
    }

    private static void fortyAtMost() {
        RoundPoint x = told(40);
        Due.is("31 forty", x.count(7), 40);
        for (int left = 39; left >= 0; left--) {
            Due.is("31 left", x.undo(), left);
            Due.is("31 back to", x.safe(0, left), left);
        }
        Due.is("31 no more of forty", x.undo(), RoundPoint.STATE);
    }

    private static void fortyOneTold() {
        for (int changes = 41; changes <= 85; changes += 11) {
            RoundPoint x = told(changes);
            Due.is("31 forty of " + changes, x.count(7), 40);
            for (int left = 39; left >= 0; left--) {
                Due.is("31 left of " + changes, x.undo(), left);
            }
            Due.is("31 the oldest is not kept of " + changes, x.undo(), RoundPoint.STATE);
            Due.is("31 so far back of " + changes, x.safe(0, changes - 40), changes - 40);
        }
    }

    /** The oldest are given up, whatever they were; of the others each goes back to its own. */
    private static void fortyOfAllKinds() {
        RoundPoint x = Shore.of("0:0", 5, 6, 7);
        x.way(1, 10100);
        x.way(102, 10200);
        x.safe(1, 66);
        for (int v = 1; v <= 9; v++) {
            x.alter(0, 0, 100 + v);
            x.alter(1, 1, v);
            x.alter(1, 2, 1000 + v);
            x.safe(2, 10 + v);
            x.sort(3, 300 + v);
        }
        Due.is("31 forty of forty-six", x.count(7), 40);
        for (int left = 39; left >= 0; left--) {
            Due.is("31 of all kinds, left", x.undo(), left);
        }
        Due.is("31 no more of all kinds", x.undo(), RoundPoint.STATE);
        Due.is("31 the height as the oldest kept found it", x.alter(0, 0, 101), 101);
        Due.is("31 the first hour", x.alter(1, 1, 1), 1);
        Due.is("31 the last hour", x.alter(1, 2, 1001), 1001);
        Due.is("31 the safe", x.safe(2, 11), 11);
        Due.is("31 the hundredths", x.sort(3, 301), 301);
        Due.is("31 the first of all is given up", x.safe(1, 66), 66);
        Due.is("31 beside, the safe", x.safe(0, 5), 5);
        Due.is("31 beside, the height", x.alter(1, 0, 200), 200);
        for (int i = 0; i < 40; i++) {
            x.redo();
        }
        Due.is("31 done again, the height", x.alter(0, 0, 109), 109);
        Due.is("31 done again, the safe", x.safe(2, 19), 19);
        Due.is("31 done again, the hundredths", x.sort(3, 309), 309);
        Due.is("31 done again, the hours", x.alter(1, 1, 9) + x.alter(1, 2, 1009), 9 + 1009);
    }

    private static void afterUndoneAgain() {
        RoundPoint x = told(40);
        x.undo();
        x.undo();
        x.safe(0, 500);
        Due.is("31 thirty-nine", x.count(7), 39);
        Due.is("31 the new one", x.undo(), 38);
        Due.is("31 back to the one ahead of those undone", x.safe(0, 38), 38);
        x.redo();
        Due.is("31 done again may be undone", x.undo(), 38);
        Due.is("31 as before", x.safe(0, 38), 38);
    }

    private static void refused() {
        Refused.on(() -> {
            RoundPoint x = Shore.some();
            while (x.undo() != RoundPoint.STATE) {
                x.count(7);
            }
            return x;
        }, "31 none, all undone", RoundPoint.STATE, x -> x.undo(), x -> x.undo());
    }
}
