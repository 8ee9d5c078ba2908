/** Promise 1: a new object: no places, no tides; one wind, still. */
public final class Promise01NewObjectTest {
    private Promise01NewObjectTest() {
    }

    public static void main(String[] args) {
        nothingIsThere();
        noPlacesNoWays();
        noTides();
        oneWindStill();
        numbersAtFirst();
        shelvesHoldNothing();
        objectsAreApart();
        the512thCall();
        Due.end();
    }

    private static void nothingIsThere() {
        RoundPoint x = new RoundPoint();
        int[] due = {0, 1, 0, 0, 0, 0, 0, 0, 0, 0};
        for (int what = 0; what < 10; what++) {
            Due.is("1 count " + what, x.count(what), due[what]);
        }
        Due.is("1 no moves", x.drop(), 0);
        Due.is("1 no marks", x.unmark(), 0);
        Due.is("1 none to be undone", x.undo(), RoundPoint.STATE);
        Due.is("1 none to be done again", x.redo(), RoundPoint.STATE);
        Due.is("1 no trace", x.trace(0), RoundPoint.BAD);
        Due.is("1 the tape is empty", x.tide(), -100);
    }

    private static void noPlacesNoWays() {
        RoundPoint x = new RoundPoint();
        Shore.tide(x, "0:0");
        Due.is("1 no place 0, safe", x.safe(0, 0), RoundPoint.BAD);
        Due.is("1 no place 0, soon", x.soon(0, 0, 0, 1), RoundPoint.BAD);
        Due.is("1 no place 0, mark", x.mark(0), RoundPoint.BAD);
        Due.is("1 no places to join", x.way(1, 1000), RoundPoint.BAD);
        Due.is("1 no way 0, takes", x.takes(0, 0, 0), RoundPoint.BAD);
        Due.is("1 no way 0, alter", x.alter(0, 0, 0), RoundPoint.BAD);
        Due.is("1 no way 0, open", x.open(0, 0, 1, 0), RoundPoint.BAD);
        Due.is("1 no way 0, move", x.move(0), RoundPoint.BAD);
        Due.is("1 the first place", x.place(0), 0);
    }

    private static void noTides() {
        RoundPoint x = new RoundPoint();
        x.place(0);
        x.place(0);
        x.way(1, 1000);
        Due.is("1 no tide 0, sea", x.sea(0, 0, 0), RoundPoint.VOID);
        Due.is("1 no tide 0, open", x.open(0, 0, 1, 0), RoundPoint.BAD);
        Due.is("1 no tide 0, soon", x.soon(0, 0, 0, 1), RoundPoint.BAD);
        Due.is("1 no tide 0, chance", x.chance(0, 0), RoundPoint.BAD);
        Due.is("1 no tide to be reached on", x.days(1, 0, 0), 0);
        Due.is("1 the first tide", Shore.tide(x, "0:0"), 0);
    }

    private static void oneWindStill() {
        RoundPoint x = Shore.strait("0:7;1439:999", 7, 10007);
        Due.is("1 no lift", x.sea(0, 0, 0), 7);
        Due.is("1 not early", x.sea(0, 0, 1439), 999);
        Due.is("1 wind 0 alone", x.open(0, 0, 1, 0) >= 0 ? 1 : 0, 1);
        Due.is("1 no second wind", x.open(0, 0, 2, 0), RoundPoint.BAD);
        Due.is("1 nor both", x.open(0, 0, 3, 0), RoundPoint.BAD);
        Due.is("1 the second is number 1", x.wind(99, 0, 3), 1);
        // its chance is 1: of 1 and 3 it is a quarter
        RoundPoint y = Shore.strait("0:7", 7, 10007);
        y.wind(99, 0, 3);
        Shore.plan(y, 0);
        Due.is("1 its chance", y.chance(0, 0), 250);
    }

    private static void numbersAtFirst() {
        RoundPoint x = Shore.strait("0:7", 7, 10007);
        Due.is("1 sort 0", x.sort(0, 100), 100);
        Due.is("1 sort 1", x.sort(1, 80), 80);
        Due.is("1 sort 2", x.sort(2, 150), 150);
        Due.is("1 sort 3", x.sort(3, 300), 300);
        Due.is("1 dawn", x.light(0, 0), 0);
        Due.is("1 dark", x.light(1, 1439), 1439);
        Due.is("1 no change among them", x.count(7), 0);
    }

    private static void shelvesHoldNothing() {
        RoundPoint x = new RoundPoint();
        for (int shelf = 0; shelf < 6; shelf++) {
            Due.is("1 shelf, put", x.put(shelf, 0, 1), -11);
            Due.is("1 shelf, taken", x.taken(shelf, 0), -11);
            Due.is("1 shelf, shift", x.shift(shelf, 0, shelf, 0, 0), -11);
            Due.is("1 shelf, moves", x.moves(shelf, 0, 1), 0);
        }
    }

    /** An object is used for 512 calls at most: the last of them is answered as the first. */
    private static void the512thCall() {
        RoundPoint x = Shore.full();
        for (int call = 201; call < 511; call++) {
            Due.is("1 call " + (call + 1), x.soon(110000 + call, 11, 39, 31), call);
        }
        Due.is("1 the 512th call", x.open(23, 0, 1, 2), 1439 - 24);
    }

    /** What one object is told is nothing to another. */
    private static void objectsAreApart() {
        RoundPoint full = Shore.full();
        RoundPoint x = new RoundPoint();
        int[] due = {0, 1, 0, 0, 0, 0, 0, 0, 0, 0};
        for (int what = 0; what < 10; what++) {
            Due.is("1 beside another, count " + what, x.count(what), due[what]);
        }
        Due.is("1 beside another, sort", x.sort(0, 100), 100);
        Due.is("1 beside another, shelf", x.taken(0, 0), -11);
        Due.is("1 the other has its own", full.count(8), 50);
    }
}
