/**
 * Runs of calls, made by a fixed rule, on RoundPoint and on the plain model side by side: each answer must be the same.
 * Arguments are mostly such as are there, some at the edge, some wrong.
 */
public final class ModelTest {
    /** An object answers 512 calls; none of the steps here makes more than 40. */
    private static final int LAST_STEP_AT = 512 - 40;

    private static long seed;
    private static RoundPoint x;
    private static PlainModel y;
    private static String run;
    private static int calls; // made of x
    private static boolean chained; // a chain of high places between ways that a great tide shuts for hours

    private ModelTest() {
    }

    public static void main(String[] args) {
        int runs = args.length > 0 ? Integer.parseInt(args[0]) : 200;
        int first = args.length > 1 ? Integer.parseInt(args[1]) : 1;
        for (int i = first; i < first + runs; i++) {
            seed = 1000003L * i + 17;
            run = "run " + i + " ";
            x = new RoundPoint();
            y = new PlainModel();
            chained = i % 3 != 0;
            calls = 0;
            coast();
            while (calls < LAST_STEP_AT) {
                oneStep();
            }
        }
        Due.end();
    }

    private static int upTo(int n) {
        seed = seed * 6364136223846793005L + 1442695040888963407L;
        return (int) ((seed >>> 33) % n);
    }

    private static int from(int least, int most) {
        return least + upTo(most - least + 1);
    }

    private static boolean oneIn(int n) {
        return upTo(n) == 0;
    }

    /** A number of 0 .. n - 1, seldom one beside. */
    private static int near(int n) {
        if (oneIn(25)) {
            int[] odd = {-1, n, n + 1, Integer.MIN_VALUE, Integer.MAX_VALUE, -100};
            return odd[upTo(odd.length)];
        }
        return upTo(Math.max(1, n));
    }

    private static void same(String call, long got, long due) {
        calls++;
        Due.is(run + call, got, due);
    }

    private static String tideText() {
        StringBuilder text = new StringBuilder();
        int points = oneIn(8) ? from(10, 13) : from(chained ? 3 : 1, 6);
        int minute = upTo(200);
        int size = 1400 / points;
        for (int i = 0; i < points && minute < 1440; i++) {
            if (i > 0) text.append(';');
            int height = !chained ? upTo(400) : i % 2 == 0 ? from(180, 330) : from(20, 140);
            text.append(oneIn(5) ? String.format("%04d", minute) : "" + minute).append(':').append(height);
            minute += from(chained && points < 7 ? 90 : 1, size);
        }
        return text.toString();
    }

    private static String spoilt(String text) {
        StringBuilder s = new StringBuilder(text);
        for (int i = from(1, 2); i > 0 && s.length() > 0; i--) {
            int at = upTo(s.length());
            char c = "0123456789:; x".charAt(upTo(14));
            switch (upTo(4)) {
                case 0: s.setCharAt(at, c); break;
                case 1: s.insert(at, c); break;
                case 2: s.deleteCharAt(at); break;
                default: s.setLength(at); break;
            }
        }
        return s.toString();
    }

    private static void tell(String text) {
        for (int i = 0; i < text.length(); i += 4) {
            int n = Math.min(4, text.length() - i);
            int v = 0;
            for (int k = n - 1; k >= 0; k--) v = v << 8 | text.charAt(i + k);
            same("feed", x.feed(n, v), y.feed(n, v));
        }
        same("tide of " + text, x.tide(), y.tide());
    }

    private static void coast() {
        for (int i = from(1, 3); i > 0; i--) tell(tideText());
        for (int i = upTo(4); i > 0; i--) {
            int lifts = chained ? from(-20, 30) : from(-40, 60);
            int early = from(-60, 60);
            int chance = from(1, 9);
            same("wind", x.wind(lifts, early, chance), y.wind(lifts, early, chance));
        }
        int places = from(3, 8);
        for (int i = 0; i < places; i++) {
            int safe = chained && !oneIn(4) ? from(280, 400) : from(80, 400);
            same("place", x.place(safe), y.place(safe));
        }
        for (int i = chained ? from(places, 2 * places) : from(4, 16); i > 0; i--) {
            int one = upTo(places);
            int ft = chained && !oneIn(5) ? 101 * one + (oneIn(2) ? 1 : 100) : 100 * one + upTo(places);
            int mh = 1000 * from(1, chained ? 60 : 90) + (chained ? from(110, 240) : from(60, 400));
            same("way", x.way(ft, mh), y.way(ft, mh));
        }
        if (chained) hours();
    }

    private static void hours() {
        for (int way = 0; way < y.count(3); way++) {
            if (oneIn(2)) {
                int first = from(100, 900);
                int last = Math.min(1439, first + from(20, 500));
                same("alter", x.alter(way, 2, last), y.alter(way, 2, last));
                same("alter", x.alter(way, 1, first), y.alter(way, 1, first));
            }
        }
    }

    private static int st() {
        return oneIn(30) ? from(-11, 50) : 10 * upTo(4) + upTo(Math.max(1, y.count(0)));
    }

    private static int fm() {
        return oneIn(30) ? near(130000) : 10000 * near(y.count(2)) + near(oneIn(3) ? 300 : 1440);
    }

    private static int ft() {
        return 100 * near(y.count(2)) + near(y.count(2));
    }

    private static int winds() {
        return oneIn(30) ? near(33) : from(1, (1 << y.count(1)) - 1);
    }

    private static void oneStep() {
        switch (upTo(10)) {
            case 0: case 1: coastCall(); break;
            case 2: case 3: reachedCall(); break;
            case 4: case 5: case 6: planCall(); break;
            default: actCall(); break;
        }
        int what = near(10);
        same("count " + what, x.count(what), y.count(what));
    }

    private static void coastCall() {
        int a = near(y.count(3));
        int b = near(5);
        int v = near(oneIn(2) ? 1440 : 1000);
        switch (upTo(12)) {
            case 0: tell(oneIn(3) ? tideText() : spoilt(tideText())); break;
            case 1: same("feed", x.feed(b, v), y.feed(b, v)); break;
            case 2: sea(v); break;
            case 3: if (oneIn(4)) same("place", x.place(v), y.place(v)); break;
            case 4: way(); break;
            case 5: safe(); break;
            case 6: case 7: alter(); break;
            case 8: { int s = near(4); int h = from(45, 405); same("sort", x.sort(s, h), y.sort(s, h)); break; }
            case 9: light(); break;
            case 10: { int s = near(4); int w = near(4); same("takes", x.takes(a, s, w), y.takes(a, s, w)); break; }
            default: if (oneIn(6)) wind(); break;
        }
    }

    private static void sea(int minute) {
        int tide = near(y.count(0));
        int wind = near(y.count(1));
        same("sea " + tide + " " + wind + " " + minute, x.sea(tide, wind, minute), y.sea(tide, wind, minute));
    }

    private static void wind() {
        int lifts = from(-101, 101);
        int early = from(-62, 62);
        int chance = near(101);
        same("wind", x.wind(lifts, early, chance), y.wind(lifts, early, chance));
    }

    private static void way() {
        if (oneIn(2)) {
            int ft = ft();
            int mh = 1000 * near(92) + near(1000);
            same("way " + ft + " " + mh, x.way(ft, mh), y.way(ft, mh));
        }
    }

    private static void safe() {
        int place = near(y.count(2));
        int v = oneIn(20) ? near(1001) : from(80, 400);
        same("safe", x.safe(place, v), y.safe(place, v));
    }

    private static void alter() {
        int way = near(y.count(3));
        int what = near(3);
        int v = what == 0 && !oneIn(10) ? from(110, 260) : what == 1 ? near(700) : 1439 - near(700);
        same("alter " + way + " " + what + " " + v, x.alter(way, what, v), y.alter(way, what, v));
    }

    private static void light() {
        int what = near(2);
        int v = what == 0 ? near(500) : 1439 - near(500);
        same("light", x.light(what, v), y.light(what, v));
    }

    private static void reachedCall() {
        int fm = fm();
        int other = fm();
        int ft = ft();
        int place = fm / 10000;
        int to = !chained || oneIn(3) ? near(y.count(2)) : oneIn(2) ? place + from(1, 2) : Math.abs(place - from(1, 2));
        int st = st();
        int set = winds();
        int way = near(y.count(3));
        int what = near(2);
        String with = " " + fm + " " + to + " " + st + " " + set + " " + what;
        switch (upTo(9)) {
            case 0: { int w = near(3); same("open" + with, x.open(way, st, set, w), y.open(way, st, set, w)); break; }
            case 1: same("soon" + with, x.soon(fm, to, st, set), y.soon(fm, to, st, set)); break;
            case 2: same("last " + ft + with, x.last(ft, st, set), y.last(ft, st, set)); break;
            case 3: same("best" + with, x.best(fm, to, st, what), y.best(fm, to, st, what)); break;
            case 4: same("days " + ft + with, x.days(ft, what, what), y.days(ft, what, what)); break;
            case 5: same("two " + other + with, x.two(fm, other, st, set, what), y.two(fm, other, st, set, what)); break;
            case 6:
                for (int w = 0; w < 6; w++) same("worth " + w + with, x.worth(w, fm, to, st), y.worth(w, fm, to, st));
                break;
            case 7: if (oneIn(3)) same("higher " + way + with, x.higher(way, fm, to, st), y.higher(way, fm, to, st)); break;
            default: same("must" + with, x.must(fm, to, st), y.must(fm, to, st)); break;
        }
    }

    private static void planCall() {
        int fm = fm();
        int st = st();
        int wind = near(y.count(1));
        int what = near(3);
        switch (upTo(13)) {
            case 0: case 1: case 2: {
                int v = oneIn(3) ? near(341) : oneIn(3) ? from(101, 200) : near(y.count(3));
                same("move " + v, x.move(v), y.move(v));
                break;
            }
            case 3: {
                int shelf = near(2);
                int i = near(8);
                int n = near(14);
                same("moves", x.moves(shelf, i, n), y.moves(shelf, i, n));
                break;
            }
            case 4: if (oneIn(2)) same("drop", x.drop(), y.drop()); break;
            case 5: same("judge", x.judge(fm, st, wind, what), y.judge(fm, st, wind, what)); break;
            case 6: case 7: same("wet " + fm, x.wet(fm, st, wind), y.wet(fm, st, wind)); break;
            case 8: same("chance", x.chance(fm, st), y.chance(fm, st)); break;
            case 9: { int m = fm / 10000 * 10000 + upTo(1440); same("mark " + m, x.mark(m), y.mark(m)); break; }
            case 10: same("old", x.old(st), y.old(st)); break;
            case 11: if (oneIn(3)) same("unmark", x.unmark(), y.unmark()); break;
            default: if (oneIn(2)) same("undo", x.undo(), y.undo()); else same("redo", x.redo(), y.redo()); break;
        }
    }

    private static void actCall() {
        int shelf = near(oneIn(4) ? 6 : 2);
        int other = near(oneIn(4) ? 6 : 2);
        int body = near(y.count(8));
        int i = near(14);
        int j = near(14);
        switch (upTo(9)) {
            case 0: if (oneIn(2)) { int kind = near(7); same("body", x.body(kind), y.body(kind)); } break;
            case 1: case 2: act(body); break;
            case 3: {
                int b = oneIn(3) ? -1 : body;
                if (oneIn(3)) same("keep", x.keep(shelf, b), y.keep(shelf, b));
                break;
            }
            case 4: {
                int sort = oneIn(2) ? 1 : near(5);
                int n = oneIn(20) ? near(61) : upTo(16);
                same("row " + n, x.row(shelf, sort, n), y.row(shelf, sort, n));
                break;
            }
            case 5: case 6: {
                long v = oneIn(3) ? seed : oneIn(2) ? from(101, 130) : upTo(6);
                same("put", x.put(shelf, i, v), y.put(shelf, i, v));
                break;
            }
            case 7: {
                int n = near(8);
                same("shift", x.shift(shelf, i, other, j, n), y.shift(shelf, i, other, j, n));
                for (int e = 0; e < 16; e++) same("element", x.element(other, e), y.element(other, e));
                break;
            }
            default: { int k = near(7); same("taken", x.taken(shelf, k), y.taken(shelf, k)); break; }
        }
        same("element", x.element(shelf, i), y.element(shelf, i));
    }

    private static void act(int body) {
        int act = near(4);
        int v = oneIn(3) ? (int) seed : from(-20, 20);
        same("act " + body + " " + act + " " + v, x.act(body, act, v), y.act(body, act, v));
        for (int i = -1; i <= y.count(9); i++) same("trace " + i, x.trace(i), y.trace(i));
    }
}
