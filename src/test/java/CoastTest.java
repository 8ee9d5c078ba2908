/** Promises 1 to 12: the coast. */
public final class CoastTest {
    private CoastTest() {
    }

    public static void main(String[] args) {
        newObject();
        feeding();
        faults();
        faultsOfAllShortTexts();
        tides();
        winds();
        seaBetweenPoints();
        seaInWinds();
        places();
        ways();
        safes();
        altering();
        sorts();
        lights();
        taking();
        Due.end();
    }

    private static void newObject() {
        RoundPoint x = new RoundPoint();
        int[] counts = {0, 1, 0, 0, 0, 0, 0, 0, 0, 0};
        for (int what = 0; what < counts.length; what++) {
            Due.is("1 count " + what, x.count(what), counts[what]);
        }
        Due.is("1 the sea without a tide", x.sea(0, 0, 0), RoundPoint.VOID);
        Shore.tide(x, "0:7");
        Due.is("1 the wind is still", x.sea(0, 0, 0), 7);
        x.wind(0, 0, 3);
        x.place(0);
        Due.is("1 the still wind's chance is 1", x.chance(0, 0), 1000);
        Shore.plan(x, 101);
        x.safe(0, 6);
        Due.is("1 no wind is calm enough", x.chance(0, 0), 0);
    }

    private static void feeding() {
        RoundPoint x = new RoundPoint();
        Due.is("2 none", x.feed(0, 0), RoundPoint.BAD);
        Due.is("2 five", x.feed(5, 0), RoundPoint.BAD);
        Due.is("2 below", x.feed(-1, 0), RoundPoint.BAD);
        Due.is("2 lowest first", x.feed(3, '5' | ':' << 8 | '7' << 16 | 'x' << 24), 3);
        x.tide();
        Due.is("2 read", x.sea(0, 0, 0), 7);
        Due.is("2 the highest byte is one too", x.feed(4, -1), 4);
        Due.is("2 its fault", x.tide(), -100);
        for (int i = 1; i <= 29; i++) {
            Due.is("2 fours", x.feed(4, 0), 4 * i);
        }
        Due.is("2 three more", x.feed(3, 0), 119);
        Due.is("2 two do not fit", x.feed(2, 0), RoundPoint.FULL);
        Due.is("2 nothing of them came", x.count(4), 119);
        Due.is("2 one fits", x.feed(1, 0), 120);
        Due.is("2 full", x.feed(1, 0), RoundPoint.FULL);
        Due.is("2 bad ahead of full", x.feed(5, 0), RoundPoint.BAD);
    }

    private static void fault(String text, int place) {
        RoundPoint x = new RoundPoint();
        Due.is("3 fault of " + text, Shore.tide(x, text), -100 - place);
        Due.is("3 tape after " + text, x.count(4), 0);
        Due.is("3 tides after " + text, x.count(0), 0);
    }

    private static void faults() {
        fault("", 0);
        fault("x", 0);
        fault(" 5:1", 0);
        fault("5", 1);
        fault("5x", 1);
        fault("5 :1", 1);
        fault("5:", 2);
        fault("5:x", 2);
        fault("5:1000", 5);
        fault("5:1 ", 3);
        fault("5:1;", 4);
        fault("5:1;;", 4);
        fault(":1", 0);
        fault("00005:1", 4);
        fault("12345:1", 4);
        // a MINUTE above 1439: its first digit
        fault("1440:1", 0);
        fault("1440", 0);
        fault("1440x", 0);
        fault("9999", 0);
        fault("14405:1", 0);
        fault("5:1;1500:1", 4);
        // one that does not rise: its first digit too, whatever stands or fails to stand behind it
        fault("5:1;5:2", 4);
        fault("5:1;4:2", 4);
        fault("5:1;0005", 4);
        fault("6:6;5", 4);
        fault("6:6;6", 4);
        fault("6:6;0", 4);
        fault("6:6;5x", 4);
        fault("6:6;5;", 4);
        fault("6:6;5:", 4);
        fault("6:6;00012:1", 4);
        fault("500:1;3", 6);
        fault("500:1;14", 6);
        fault("500:1;15", 6);
        fault("500:1;500", 6);
        fault("1438:1;143", 7);
        fault("1438:1;144", 7);
        fault("10:1;20:2;15", 10);
        // one that rises goes on to the end or to the wrong byte
        fault("6:6;7", 5);
        fault("6:6;7x", 5);
        fault("6:6;50", 6);
        fault("6:6;12345", 8);
        fault("500:1;501", 9);
        fault("1438:1;1439", 11);
        fault("1439:1;5:1", 7);
        fault("1439:1;1", 7);
        fault("1439:1;", 7);
        fault("0:1;1:1;2:1;3:1;4:1;5:1;6:1;7:1;8:1;9:1;10:1;11:1;", 49);
        fault("0:1;1:1;2:1;3:1;4:1;5:1;6:1;7:1;8:1;9:1;10:1;11:1x", 49);
    }

    /** Every text of up to six of these signs, behind a point and without one. */
    private static void faultsOfAllShortTexts() {
        String signs = "0159:;x";
        RoundPoint x = new RoundPoint();
        for (int size = 0; size <= 6; size++) {
            int texts = (int) Math.pow(signs.length(), size);
            for (int n = 0; n < texts; n++) {
                StringBuilder text = new StringBuilder(n % 2 == 0 ? "" : "51:9;");
                for (int rest = n, i = 0; i < size; i++, rest /= signs.length()) {
                    text.append(signs.charAt(rest % signs.length()));
                }
                int due = PlainModel.faultOf(text.toString());
                if (n % 50 == 0 || x.count(0) == 10) {
                    x = new RoundPoint();
                }
                Due.is("3 of " + text, Shore.tide(x, text.toString()), due >= 0 ? -100 - due : x.count(0) - 1);
            }
        }
    }

    private static void tides() {
        RoundPoint x = new RoundPoint();
        Due.is("3 twelve points", Shore.tide(x, "0:1;1:2;2:3;3:4;4:5;5:6;6:7;7:8;8:9;9:10;10:11;11:12"), 0);
        Due.is("3 the last of them", x.sea(0, 0, 11), 12);
        Due.is("3 nothing is left", x.count(4), 0);
        Due.is("3 of the text ahead nothing is read", Shore.tide(x, "0"), -101);
        Due.is("3 nor here", Shore.tide(x, "0:"), -102);
        Due.is("3 noughts ahead", Shore.tide(x, "0005:007;1439:999"), 1);
        Due.is("3 read so", x.sea(1, 0, 5), 7);
        for (int tide = 2; tide < 10; tide++) {
            Due.is("3 tide " + tide, Shore.tide(x, "0:" + tide), tide);
        }
        Shore.tell(x, "0:77");
        Due.is("3 full", x.tide(), RoundPoint.FULL);
        Due.is("3 the tape stays", x.count(4), 4);
        Due.is("3 ten tides", x.count(0), 10);
        Due.is("3 the last as it was", x.sea(9, 0, 0), 9);
    }

    private static void winds() {
        RoundPoint x = new RoundPoint();
        int[][] wrong = {{-100, 0, 1}, {100, 0, 1}, {0, -61, 1}, {0, 61, 1}, {0, 0, 0}, {0, 0, 100}};
        for (int[] w : wrong) {
            Due.is("4 wrong", x.wind(w[0], w[1], w[2]), RoundPoint.BAD);
        }
        Due.is("4 least", x.wind(-99, -60, 1), 1);
        Due.is("4 most", x.wind(99, 60, 99), 2);
        Due.is("4 third", x.wind(0, 0, 1), 3);
        Due.is("4 fourth", x.wind(0, 0, 1), 4);
        Due.is("4 full", x.wind(0, 0, 1), RoundPoint.FULL);
        Due.is("4 bad ahead of full", x.wind(0, 0, 0), RoundPoint.BAD);
        Due.is("4 five", x.count(1), 5);
    }

    private static void seaBetweenPoints() {
        RoundPoint x = new RoundPoint();
        Shore.tide(x, "10:100;13:90;20:91;1000:999");
        int[][] due = {{0, 100}, {10, 100}, {11, 96}, {12, 93}, {13, 90}, {14, 90}, {19, 90}, {20, 91},
            {510, 545}, {1000, 999}, {1001, 999}, {1439, 999}};
        for (int[] d : due) {
            Due.is("5 at " + d[0], x.sea(0, 0, d[0]), d[1]);
        }
        Due.is("5 ahead of dawn", x.sea(0, 0, -1), RoundPoint.VOID);
        Due.is("5 behind the day", x.sea(0, 0, 1440), RoundPoint.VOID);
        Due.is("5 no such tide", x.sea(1, 0, 0), RoundPoint.VOID);
        Due.is("5 nor below", x.sea(-1, 0, 0), RoundPoint.VOID);
        Due.is("5 no such wind", x.sea(0, 1, 0), RoundPoint.VOID);
        Due.is("5 nor wind below", x.sea(0, -1, 0), RoundPoint.VOID);
    }

    private static void seaInWinds() {
        RoundPoint x = new RoundPoint();
        Shore.tide(x, "0:0;100:100;1339:100;1439:0");
        x.wind(20, 30, 1);
        x.wind(-50, -40, 1);
        Due.is("5 earlier and lifted", x.sea(0, 1, 10), 60);
        Due.is("5 held at the end", x.sea(0, 1, 1420), 20);
        Due.is("5 later and pressed", x.sea(0, 2, 60), -30);
        Due.is("5 held at the beginning", x.sea(0, 2, 39), -50);
        Due.is("5 still", x.sea(0, 0, 60), 60);
    }

    private static void places() {
        RoundPoint x = new RoundPoint();
        Due.is("6 below", x.place(-1), RoundPoint.BAD);
        Due.is("6 above", x.place(1000), RoundPoint.BAD);
        for (int place = 0; place < 12; place++) {
            Due.is("6 place", x.place(place == 0 ? 999 : 0), place);
        }
        Due.is("6 full", x.place(0), RoundPoint.FULL);
        Due.is("6 bad ahead of full", x.place(1000), RoundPoint.BAD);
        Due.is("6 twelve", x.count(2), 12);
        Due.is("6 as told", x.safe(0, 1), 999);
    }

    private static void ways() {
        RoundPoint x = Shore.of("0:0", 0, 0, 0);
        int[][] wrong = {{0, 1000}, {101, 1000}, {3, 1000}, {300, 1000}, {-1, 1000}, {-100, 1000}, {1, -1},
            {1, 0}, {1, 999}, {1, 91000}, {1, -1001}, {10001, 1000}};
        for (int[] w : wrong) {
            Due.is("7 wrong " + w[0] + " " + w[1], x.way(w[0], w[1]), RoundPoint.BAD);
        }
        Due.is("7 shortest", x.way(1, 1000), 0);
        Due.is("7 longest", x.way(201, 90999), 1);
        Due.is("7 its minutes", x.takes(1, 0, 0), 90);
        Due.is("7 its height", x.alter(1, 0, 999), 999);
        Due.is("7 its first hour", x.alter(1, 1, 0), 0);
        Due.is("7 its last hour", x.alter(1, 2, 1439), 1439);
        for (int way = 2; way < 24; way++) {
            Due.is("7 way", x.way(1, 1000), way);
        }
        Due.is("7 full", x.way(1, 1000), RoundPoint.FULL);
        Due.is("7 bad ahead of full", x.way(0, 1000), RoundPoint.BAD);
        Due.is("7 ways", x.count(3), 24);
        Due.is("7 either way along", x.soon(10000, 2, 0, 1), 90);
    }

    private static void safes() {
        RoundPoint x = Shore.of("0:5", 5);
        Due.is("8 no such place", x.safe(1, 5), RoundPoint.BAD);
        Due.is("8 nor below", x.safe(-1, 5), RoundPoint.BAD);
        Due.is("8 below", x.safe(0, -1), RoundPoint.BAD);
        Due.is("8 above", x.safe(0, 1000), RoundPoint.BAD);
        Shore.plan(x, 101);
        Due.is("8 dry at just safe", x.judge(0, 0, 0, 0), RoundPoint.NOT);
        Due.is("8 what it was", x.safe(0, 4), 5);
        Due.is("8 not dry below", x.judge(0, 0, 0, 0), 0);
        Due.is("8 most", x.safe(0, 999), 4);
        Due.is("8 least", x.safe(0, 0), 999);
    }

    private static void altering() {
        RoundPoint x = Shore.of("0:5", 9, 9);
        x.way(1, 10005);
        int[][] wrong = {{1, 0, 0}, {-1, 0, 0}, {0, -1, 0}, {0, 3, 0}, {0, 0, -1}, {0, 0, 1000}, {0, 1, -1},
            {0, 1, 1440}, {0, 2, -1}, {0, 2, 1440}};
        for (int[] w : wrong) {
            Due.is("9 wrong", x.alter(w[0], w[1], w[2]), RoundPoint.BAD);
        }
        Due.is("9 passable at just its height", x.soon(0, 1, 0, 1), 10);
        Due.is("9 height", x.alter(0, 0, 4), 5);
        Due.is("9 not below", x.soon(0, 1, 0, 1), RoundPoint.NOT);
        Due.is("9 height again", x.alter(0, 0, 5), 4);
        Due.is("9 last hour", x.alter(0, 2, 700), 1439);
        Due.is("9 first above last", x.alter(0, 1, 701), RoundPoint.BAD);
        Due.is("9 first as last", x.alter(0, 1, 700), 0);
        Due.is("9 last below first", x.alter(0, 2, 699), RoundPoint.BAD);
        Due.is("9 begun only then", x.soon(0, 1, 0, 1), 710);
        Due.is("9 first", x.alter(0, 1, 600), 700);
        Due.is("9 begun then", x.soon(0, 1, 0, 1), 610);
        Due.is("9 changes", x.count(7), 5);
    }

    private static void sorts() {
        RoundPoint x = Shore.of("0:5", 9, 9);
        x.way(1, 10005);
        int[] first = {100, 80, 150, 300};
        for (int sort = 0; sort < 4; sort++) {
            Due.is("10 at first", x.sort(sort, 50), first[sort]);
            Due.is("10 what they were", x.sort(sort, 400), 50);
            Due.is("10 taken", x.takes(0, sort, 0), 40);
        }
        Due.is("10 no such sort", x.sort(4, 100), RoundPoint.BAD);
        Due.is("10 nor below", x.sort(-1, 100), RoundPoint.BAD);
        Due.is("10 below", x.sort(0, 49), RoundPoint.BAD);
        Due.is("10 above", x.sort(0, 401), RoundPoint.BAD);
    }

    private static void lights() {
        RoundPoint x = Shore.of("0:5", 9, 9);
        x.way(1, 10005);
        Due.is("11 no such", x.light(2, 5), RoundPoint.BAD);
        Due.is("11 nor below", x.light(-1, 5), RoundPoint.BAD);
        Due.is("11 below", x.light(0, -1), RoundPoint.BAD);
        Due.is("11 above", x.light(1, 1440), RoundPoint.BAD);
        Due.is("11 dark", x.light(1, 700), 1439);
        Due.is("11 dawn above dark", x.light(0, 701), RoundPoint.BAD);
        Due.is("11 dawn", x.light(0, 690), 0);
        Due.is("11 dark below dawn", x.light(1, 689), RoundPoint.BAD);
        Due.is("11 just time enough", x.last(1, 0, 1), 690);
        Due.is("11 dawn once more", x.light(0, 691), 690);
        Due.is("11 too late", x.last(1, 0, 1), RoundPoint.NOT);
        Due.is("11 dawn as dark", x.light(0, 700), 691);
        Due.is("11 dark as dawn", x.light(1, 700), 700);
        Due.is("11 no change to undo", x.count(7), 0);
    }

    private static void taking() {
        RoundPoint x = Shore.of("0:5", 9, 9);
        x.way(1, 33005);
        Due.is("12 even", x.takes(0, 0, 0), 33);
        Due.is("12 up", x.takes(0, 0, 1), 37);
        Due.is("12 up again", x.takes(0, 1, 0), 27);
        x.way(1, 1005);
        x.sort(2, 101);
        Due.is("12 up by a hundredth", x.takes(1, 2, 0), 2);
        Due.is("12 weariest", x.takes(0, 3, 3), 109);
        Due.is("12 no such way", x.takes(2, 0, 0), RoundPoint.BAD);
        Due.is("12 nor below", x.takes(-1, 0, 0), RoundPoint.BAD);
        Due.is("12 no such sort", x.takes(0, 4, 0), RoundPoint.BAD);
        Due.is("12 sort below", x.takes(0, -1, 0), RoundPoint.BAD);
        Due.is("12 too weary", x.takes(0, 0, 4), RoundPoint.BAD);
        Due.is("12 weary below", x.takes(0, 0, -1), RoundPoint.BAD);
    }
}
