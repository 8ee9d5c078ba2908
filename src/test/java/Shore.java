/** Makes objects for the tests: tides told as text, coasts of a few places. */
final class Shore {
    /** Rises from 0 at 0 to 600 at 600 and falls again to 0 at 1200: a minute on, a height more. */
    static final String TENT = "0:0;600:600;1200:0";
    /** High, 50, at the MINUTE 501 alone. */
    static final String SPIKE = "0:0;500:0;501:50;502:0";

    /** High, 50, at the MINUTE 0 alone. */
    static final String FIRST_HIGH = "0:50;1:0";
    /** High, 50, at the MINUTE 1439 alone. */
    static final String LAST_HIGH = "1438:0;1439:50";
    /** MINUTES that the way of ten() takes by each SORT. */
    static final int[] TEN = {10, 8, 15, 30};

    private Shore() {
    }

    static void tell(RoundPoint x, String text) {
        for (int i = 0; i < text.length(); i += 4) {
            int n = Math.min(4, text.length() - i);
            int v = 0;
            for (int k = n - 1; k >= 0; k--) {
                v = v << 8 | text.charAt(i + k);
            }
            x.feed(n, v);
        }
    }

    static int tide(RoundPoint x, String text) {
        tell(x, text);
        return x.tide();
    }

    /** Places with these SAFES, one tide. */
    static RoundPoint of(String tide, int... safes) {
        RoundPoint x = new RoundPoint();
        tide(x, tide);
        for (int safe : safes) {
            x.place(safe);
        }
        return x;
    }

    /** Places 0 and 1, both with this SAFE, and way 0 between them. */
    static RoundPoint strait(String tide, int safe, int mh) {
        RoundPoint x = of(tide, safe, safe);
        x.way(1, mh);
        return x;
    }

    /** Ten tides, flat, of 0, 10, 20 .. 90; places 0 and 1 with this SAFE, way 0: ten minutes, PASSABLE up to 50. */
    static RoundPoint ten(int safe) {
        RoundPoint x = new RoundPoint();
        for (int tide = 0; tide < 10; tide++) {
            tide(x, "0:" + 10 * tide);
        }
        x.place(safe);
        x.place(safe);
        x.way(1, 10050);
        return x;
    }

    /** The way can only be begun from the first to the last hour. */
    static void hours(RoundPoint x, int way, int first, int last) {
        x.alter(way, 1, 0);
        x.alter(way, 2, last);
        x.alter(way, 1, first);
    }

    static void plan(RoundPoint x, int... moves) {
        x.drop();
        for (int move : moves) {
            x.move(move);
        }
    }

    static void marks(RoundPoint x, int... marks) {
        x.unmark();
        for (int mark : marks) {
            x.mark(mark);
        }
    }

    static void row(RoundPoint x, int shelf, int sort, long... elements) {
        x.row(shelf, sort, elements.length);
        for (int i = 0; i < elements.length; i++) {
            x.put(shelf, i, elements[i]);
        }
    }

    /**
     * Some of everything: TIDES 0 and 1 and three bytes on THE TAPE, WINDS 0 to 2, PLACES 0 to 3, WAYS 0 to 3, three
     * moves, three marks, four changes that may be UNDONE and two that may be DONE AGAIN, BODIES 0 to 3, and on the
     * SHELVES: 0 the BODY 1, 1 four shorts, 2 three bytes, 3 five ints, 4 nothing, 5 two booleans.
     */
    static RoundPoint some() {
        RoundPoint x = of(TENT, 700, 40, 700, 300);
        tide(x, "5:50;700:60");
        tell(x, "7:9");
        x.wind(20, 10, 3);
        x.wind(-15, -30, 2);
        x.way(1, 30100);
        x.way(102, 10990);
        x.way(2, 80500);
        x.way(203, 5050);
        x.alter(1, 1, 10);
        x.alter(1, 2, 1400);
        x.safe(3, 310);
        x.sort(1, 90);
        x.alter(2, 0, 510);
        x.alter(3, 0, 60);
        x.undo();
        x.undo();
        x.light(0, 20);
        x.light(1, 1300);
        plan(x, 0, 1, 105);
        marks(x, 10, 10041, 20060);
        x.body(0);
        x.body(3);
        x.body(5);
        x.body(6);
        x.act(2, 3, 4);
        x.keep(0, 1);
        row(x, 1, 1, 0, 1, 105, 3);
        row(x, 2, 0, 7, -8, 9);
        row(x, 3, 2, 1, 2, 3, 4, 5);
        row(x, 5, 4, 1, 0);
        return x;
    }

    /** As much of everything as there can be, by 201 calls. */
    static RoundPoint full() {
        RoundPoint x = new RoundPoint();
        for (int tide = 0; tide < 10; tide++) {
            tide(x, "9:" + 10 * tide);
        }
        for (int wind = 1; wind < 5; wind++) {
            x.wind(wind, -wind, 2 * wind);
        }
        for (int place = 0; place < 12; place++) {
            x.place(20 + 10 * place);
        }
        for (int way = 0; way < 24; way++) {
            x.way(101 * (way % 11) + 1, 1000 * (way + 1) + 100);
        }
        for (int v = 1; v <= 40; v++) {
            x.alter(v % 24, 0, 100 + v);
        }
        for (int move = 0; move < 12; move++) {
            x.move(move < 11 ? move : 110);
        }
        for (int mark = 0; mark < 6; mark++) {
            x.mark(10000 * mark + 100 * mark);
        }
        for (int body = 0; body < 50; body++) {
            x.body(body % 7);
        }
        for (int i = 0; i < 30; i++) {
            x.feed(4, 0x41424344);
        }
        x.act(5, 3, 1);
        x.keep(0, 49);
        x.row(1, 1, 60);
        return x;
    }
}
