/** Promises 22 to 32: plans, marks of old, changes undone. */
public final class PlansTest {
    private static final String TENT = "0:0;600:600;1200:0";

    private PlansTest() {
    }

    public static void main(String[] args) {
        moving();
        movesFromRow();
        dropping();
        judging();
        judgingWaits();
        judgingWrong();
        shutIn();
        notShutIn();
        chances();
        marking();
        ofOld();
        undoing();
        changesTold();
        fortyKept();
        fortyOfAll();
        elsewhere();
        lastOfTenTides();
        Due.end();
    }

    /** Three places in a row, the middle one dry up to 40; ways of 30 and 10 minutes. */
    private static RoundPoint coast() {
        RoundPoint x = Shore.of(TENT, 999, 40, 999);
        x.way(1, 30100);
        x.way(201, 10999);
        return x;
    }

    private static void moving() {
        RoundPoint x = coast();
        int[] wrong = {-1, 2, 24, 99, 100, 341, Integer.MAX_VALUE, Integer.MIN_VALUE};
        for (int v : wrong) {
            Due.is("22 wrong " + v, x.move(v), RoundPoint.BAD);
        }
        int[] right = {0, 1, 101, 340};
        for (int i = 0; i < 12; i++) {
            Due.is("22 right", x.move(right[i % 4]), i + 1);
        }
        Due.is("22 full", x.move(0), RoundPoint.FULL);
        Due.is("22 bad ahead of full", x.move(2), RoundPoint.BAD);
        Due.is("22 twelve", x.count(5), 12);
    }

    private static void movesFromRow() {
        RoundPoint x = coast();
        Due.is("23 nothing is missing", x.moves(0, 0, 1), 0);
        int[][] wrong = {{-1, 0, 1}, {6, 0, 1}, {0, 0, 0}, {0, 0, 13}, {0, 0, -1}};
        for (int[] w : wrong) {
            Due.is("23 wrong", x.moves(w[0], w[1], w[2]), RoundPoint.BAD);
        }
        x.body(0);
        x.keep(1, 0);
        Due.is("23 a body", x.moves(1, 0, 1), -12);
        for (int sort = 0; sort < 5; sort++) {
            x.row(2, sort, 3);
            Due.is("23 of sort " + sort, x.moves(2, 0, 1), sort == 1 ? 1 : -12);
        }
        x.drop();
        x.row(3, 1, 6);
        int[] elements = {0, 1, 105, 2, 101, 340};
        for (int i = 0; i < 6; i++) {
            x.put(3, i, elements[i]);
        }
        Due.is("23 two of them", x.moves(3, 1, 2), 2);
        Due.is("23 they came", x.count(5), 2);
        Due.is("23 ends where one may not be", x.moves(3, 1, 5), 2);
        Due.is("23 there at once", x.moves(3, 3, 1), 0);
        Due.is("23 ends where the row ends", x.moves(3, 4, 12), 2);
        Due.is("23 behind its end", x.moves(3, 6, 1), 0);
        Due.is("23 far behind", x.moves(3, Integer.MAX_VALUE, 12), 0);
        Due.is("23 ahead of it", x.moves(3, -1, 3), 0);
        Due.is("23 six by now", x.count(5), 6);
        x.moves(3, 0, 3);
        x.moves(3, 4, 1);
        Due.is("23 ends where the plan is full", x.moves(3, 0, 3), 2);
        Due.is("23 full at once", x.moves(3, 0, 3), 0);
        x.row(4, 1, 0);
        x.drop();
        Due.is("23 a row of none", x.moves(4, 0, 1), 0);
        x.moves(3, 0, 3);
        Due.is("23 in their order: to the far place", x.judge(0, 0, 0, 2), 2);
        Due.is("23 and waited", x.judge(0, 0, 0, 1), 30 + 11 + 5);
    }

    private static void dropping() {
        RoundPoint x = coast();
        Due.is("24 none", x.drop(), 0);
        Shore.plan(x, 0, 101);
        Due.is("24 two", x.drop(), 2);
        Due.is("24 none are left", x.count(5), 0);
        Due.is("24 none to judge", x.judge(5, 0, 0, 1), 5);
    }

    private static void judging(RoundPoint x, int fm, int move, int minute, int place) {
        Due.is("25 move from " + fm, x.judge(fm, 0, 0, 0), move);
        Due.is("25 minute from " + fm, x.judge(fm, 0, 0, 1), minute);
        Due.is("25 place from " + fm, x.judge(fm, 0, 0, 2), place);
    }

    private static void judging() {
        RoundPoint x = coast();
        judging(x, 5, RoundPoint.NOT, 5, 0);
        Shore.plan(x, 0, 1);
        judging(x, 5, RoundPoint.NOT, 46, 2);
        judging(x, 70, RoundPoint.NOT, 111, 2);
        judging(x, 71, 0, 71, 0);
        judging(x, 10005, 1, 35, 0);
        judging(x, 20005, 0, 5, 2);
        judging(x, 1398, RoundPoint.NOT, 1439, 2);
        judging(x, 1399, 1, 1429, 1);
        Shore.plan(x, 0, 0, 0, 0, 0);
        judging(x, 1100, RoundPoint.NOT, 1100 + 30 + 33 + 36 + 39 + 39, 1);
        x.alter(0, 1, 1101);
        judging(x, 1100, 0, 1100, 0);
        judging(x, 1101, RoundPoint.NOT, 1278, 1);
        x.alter(0, 2, 1238);
        judging(x, 1101, 4, 1239, 0);
        x.wind(1, 0, 1);
        Due.is("25 in a wind", x.judge(1101, 0, 1, 0), 4);
        x.alter(0, 1, 1000);
        Due.is("25 still is open", x.judge(1100, 0, 0, 0), RoundPoint.NOT);
        Due.is("25 in the wind it is not yet", x.judge(1100, 0, 1, 0), 0);
        Due.is("25 a quicker sort", x.judge(1100, 10, 0, 1), 1100 + 24 + 27 + 30 + 33 + 33);
    }

    private static void judgingWaits() {
        RoundPoint x = coast();
        Shore.plan(x, 110, 101);
        judging(x, 10020, RoundPoint.NOT, 31, 1);
        judging(x, 10029, RoundPoint.NOT, 40, 1);
        judging(x, 10030, 1, 40, 1);
        judging(x, 10031, 0, 31, 1);
        judging(x, 600, RoundPoint.NOT, 611, 0);
        judging(x, 1429, 1, 1439, 0);
        judging(x, 1430, 0, 1430, 0);
        Shore.plan(x, 340);
        judging(x, 1199, RoundPoint.NOT, 1439, 0);
        judging(x, 1200, 0, 1200, 0);
        Shore.plan(x, 0, 110, 0);
        judging(x, 0, RoundPoint.NOT, 30 + 10 + 33, 0);
        judging(x, 1, 1, 31, 1);
    }

    private static void judgingWrong() {
        RoundPoint x = coast();
        int[][] wrong = {{-1, 0, 0, 0}, {30000, 0, 0, 0}, {1440, 0, 0, 0}, {0, 1, 0, 0}, {0, -1, 0, 0}, {0, 40, 0, 0},
            {0, 0, 1, 0}, {0, 0, -1, 0}, {0, 0, 0, 3}, {0, 0, 0, -1}};
        for (int[] w : wrong) {
            Due.is("25 wrong", x.judge(w[0], w[1], w[2], w[3]), RoundPoint.BAD);
            if (w[3] == 0) {
                Due.is("26 wrong", x.wet(w[0], w[1], w[2]), RoundPoint.BAD);
            }
            if (w[2] == 0 && w[3] == 0) {
                Due.is("27 wrong", x.chance(w[0], w[1]), RoundPoint.BAD);
            }
        }
    }

    private static void shutIn() {
        RoundPoint x = coast();
        x.alter(1, 2, 20);
        Shore.plan(x, 240);
        // place 1 is dry up to 40; way 0 goes back up to 70, way 1 is shut from 21 on
        Due.is("26 the way back goes", x.wet(10025, 0, 0), RoundPoint.NOT);
        x.alter(0, 2, 39);
        Due.is("26 not any more", x.wet(10025, 0, 0), 40);
        Due.is("26 from the beginning", x.wet(10000, 0, 0), 40);
        Due.is("26 wet at once", x.wet(10041, 0, 0), 41);
        Due.is("26 wet far out", x.wet(10600, 0, 0), 600);
        x.alter(0, 2, 40);
        Due.is("26 it goes just then", x.wet(10025, 0, 0), RoundPoint.NOT);
        x.alter(0, 0, 69);
        Due.is("26 too high by a minute", x.wet(10025, 0, 0), 40);
        x.alter(0, 0, 70);
        x.alter(0, 2, 1439);
        // wearier: 33 minutes, to 73
        Shore.plan(x, 0, 240);
        Due.is("26 wearier it does not", x.wet(5, 0, 0), 40);
        x.alter(0, 0, 73);
        Due.is("26 wearier it does", x.wet(5, 0, 0), RoundPoint.NOT);
        x.alter(0, 0, 72);
        x.wind(5, 0, 1);
        Due.is("26 still it is shut later", x.wet(5, 0, 0), 40);
        Due.is("26 in a wind", x.wet(5, 0, 1), 35);
        Shore.plan(x, 0, 1);
        Due.is("26 of a way that does not go", x.wet(5, 0, 1), 35);
    }

    private static void notShutIn() {
        RoundPoint x = coast();
        x.alter(0, 2, 0);
        x.alter(1, 2, 0);
        Due.is("26 no moves", x.wet(10041, 0, 0), RoundPoint.NOT);
        Shore.plan(x, 0);
        Due.is("26 all go", x.wet(0, 0, 0), RoundPoint.NOT);
        Due.is("26 one may wait till the end", x.wet(5, 0, 0), RoundPoint.NOT);
        Due.is("26 so from the ebb on", x.wet(11160, 0, 0), RoundPoint.NOT);
        Due.is("26 not from ahead of it", x.wet(11159, 0, 0), 1159);
        Due.is("26 at the end", x.wet(11439, 0, 0), RoundPoint.NOT);
        x.safe(0, 50);
        Due.is("26 a way that does not lead on", x.wet(10030, 0, 0), 40);
        Shore.plan(x, 1);
        Due.is("26 so of another place", x.wet(0, 0, 0), 50);
        x.alter(0, 2, 50);
        Due.is("26 the other way goes then", x.wet(0, 0, 0), RoundPoint.NOT);
    }

    private static void chances() {
        RoundPoint x = coast();
        x.wind(50, 0, 4);
        x.wind(90, 0, 2);
        Due.is("27 no moves", x.chance(0, 0), 1000);
        Shore.plan(x, 0);
        Due.is("27 two winds", x.chance(0, 0), 714);
        Due.is("27 the still one", x.chance(30, 0), 142);
        Due.is("27 none", x.chance(71, 0), 0);
        Due.is("27 all", x.chance(1200, 0), 1000);
        Due.is("27 a quicker sort", x.chance(22, 10), 714);
        Shore.plan(x, 0, 101);
        Due.is("27 all its moves", x.chance(0, 0), 142);
    }

    private static void marking() {
        RoundPoint x = coast();
        int[] wrong = {-1, 1440, 30000};
        for (int fm : wrong) {
            Due.is("28 wrong", x.mark(fm), RoundPoint.BAD);
        }
        Due.is("28 one", x.mark(20005), 1);
        Due.is("28 the same minute", x.mark(5), RoundPoint.BAD);
        Due.is("28 one ahead", x.mark(10004), RoundPoint.BAD);
        for (int i = 2; i <= 6; i++) {
            Due.is("28 more", x.mark(5 + i), i);
        }
        Due.is("28 full", x.mark(100), RoundPoint.FULL);
        Due.is("28 bad ahead of full", x.mark(11), RoundPoint.BAD);
        Due.is("28 six", x.count(6), 6);
        Due.is("30 six", x.unmark(), 6);
        Due.is("30 none are left", x.count(6), 0);
        Due.is("30 none", x.unmark(), 0);
        Due.is("30 from the beginning again", x.mark(0), 1);
    }

    private static void ofOld() {
        RoundPoint x = coast();
        x.wind(50, 0, 1);
        Due.is("29 none", x.old(0), RoundPoint.STATE);
        x.mark(0);
        Due.is("29 one", x.old(0), RoundPoint.STATE);
        Due.is("29 bad ahead of state", x.old(1), RoundPoint.BAD);
        Due.is("29 below", x.old(-1), RoundPoint.BAD);
        Due.is("29 no such sort", x.old(40), RoundPoint.BAD);
        x.mark(10030);
        Due.is("29 just so", x.old(0), 3);
        Due.is("29 a slow one", x.old(20), 0);
        Due.is("29 a quick one starts later", x.old(10), 3);
        Due.is("29 the marks stay", x.count(6), 2);
        // not weary: 30 minutes back in all, begun at 30; in the wind 60 and 50
        x.mark(60);
        Due.is("29 on from there, not weary", x.old(0), 1);
        x.alter(0, 0, 110);
        Due.is("29 in the wind too", x.old(0), 3);
        x.unmark();
        x.mark(0);
        x.mark(10041);
        Due.is("29 be there when it is wet, coming then", x.old(0), 3);
        x.alter(0, 2, 10);
        Due.is("29 not if one cannot come then", x.old(0), 0);
        x.light(1, 1);
        x.alter(0, 2, 11);
        Due.is("29 the light is nothing to it", x.old(0), 3);
        x.unmark();
        x.mark(5);
        x.mark(900);
        Due.is("29 staying", x.old(0), 3);
    }

    private static void undoing() {
        RoundPoint x = coast();
        Due.is("31 none", x.undo(), RoundPoint.STATE);
        Due.is("32 none", x.redo(), RoundPoint.STATE);
        x.safe(0, 5);
        x.safe(0, 6);
        x.sort(1, 50);
        Due.is("31 two left", x.undo(), 2);
        Due.is("31 as it was", x.sort(1, 80), 80);
        Due.is("31 one left", x.undo(), 1);
        Due.is("31 none left", x.undo(), 0);
        Due.is("31 no more", x.undo(), RoundPoint.STATE);
        Due.is("31 the first", x.safe(0, 999), 999);
        Due.is("32 two left", x.redo(), 2);
        Due.is("32 one left", x.redo(), 1);
        Due.is("32 done again in their order", x.safe(0, 6), 6);
        Due.is("32 the same number is no change", x.count(7), 2);
        Due.is("32 so it may go on", x.redo(), 0);
        Due.is("32 no more", x.redo(), RoundPoint.STATE);
        Due.is("32 done again", x.sort(1, 50), 50);
        x.undo();
        x.safe(2, 7);
        Due.is("32 another came behind", x.redo(), RoundPoint.STATE);
        Due.is("32 kept are", x.count(7), 3);
        x.undo();
        x.light(1, 700);
        x.safe(0, -1);
        Due.is("32 light is no change", x.redo(), 0);
    }

    private static void changesTold() {
        RoundPoint x = coast();
        x.alter(0, 0, 1);
        x.alter(0, 1, 2);
        x.alter(0, 2, 3);
        x.alter(1, 2, 1);
        x.safe(1, 4);
        x.sort(3, 55);
        Due.is("31 six", x.count(7), 6);
        for (int left = 5; left >= 0; left--) {
            Due.is("31 left", x.undo(), left);
        }
        int[] were = {x.alter(0, 0, 1), x.alter(0, 1, 2), x.alter(0, 2, 3), x.alter(1, 2, 1), x.safe(1, 4), x.sort(3, 55)};
        int[] due = {100, 0, 1439, 1439, 40, 300};
        for (int i = 0; i < due.length; i++) {
            Due.is("31 what it was " + i, were[i], due[i]);
        }
        Due.is("31 the hours had been undone", x.alter(0, 1, 0), 2);
        x.undo();
        Due.is("31 the first hour is back", x.alter(0, 2, 1), RoundPoint.BAD);
        x.place(5);
        x.move(101);
        Due.is("31 others are no changes", x.count(7), 6);
    }

    private static void fortyKept() {
        RoundPoint x = coast();
        for (int v = 1; v <= 45; v++) {
            x.safe(0, v);
            Due.is("31 forty at most", x.count(7), Math.min(v, 40));
        }
        for (int left = 39; left >= 0; left--) {
            Due.is("31 of forty", x.undo(), left);
        }
        Due.is("31 the oldest are not kept", x.undo(), RoundPoint.STATE);
        Due.is("32 forty again", x.redo(), 39);
        Due.is("32 the oldest of them", x.safe(0, 6), 6);
        for (int left = 38; left >= 0; left--) {
            Due.is("32 of forty", x.redo(), left);
        }
        Due.is("32 the latest", x.safe(0, 45), 45);
    }

    private static void fortyOfAll() {
        RoundPoint x = coast();
        x.safe(1, 1);
        for (int v = 1; v <= 9; v++) {
            x.alter(0, 0, 100 + v);
            x.alter(1, 1, v);
            x.alter(1, 2, 1000 + v);
            x.safe(2, v);
            x.sort(3, 300 + v);
        }
        Due.is("31 forty of forty-six", x.count(7), 40);
        for (int left = 39; left >= 0; left--) {
            Due.is("31 of all, left", x.undo(), left);
        }
        Due.is("31 height", x.alter(0, 0, 101), 101);
        Due.is("31 first hour", x.alter(1, 1, 1), 1);
        Due.is("31 last hour", x.alter(1, 2, 1001), 1001);
        Due.is("31 safe", x.safe(2, 1), 1);
        Due.is("31 hundredths", x.sort(3, 301), 301);
        Due.is("31 the first of all", x.safe(1, 1), 1);
        for (int left = 39; left >= 0; left--) {
            Due.is("32 of all, left", x.redo(), left);
        }
        Due.is("32 height", x.alter(0, 0, 109), 109);
        Due.is("32 first hour", x.alter(1, 1, 9), 9);
        Due.is("32 last hour", x.alter(1, 2, 1009), 1009);
        Due.is("32 safe", x.safe(2, 9), 9);
        Due.is("32 hundredths", x.sort(3, 309), 309);
    }

    /** All once more on the second tide, by the second sort, between places 9, 10 and 11. */
    private static void elsewhere() {
        RoundPoint x = Shore.of("0:999", 0, 0, 0, 0, 0, 0, 0, 0, 0, 998, 40, 998);
        Shore.tide(x, TENT);
        x.way(910, 40100);
        x.way(1110, 10998);
        x.wind(1, 0, 2);
        Shore.plan(x, 0, 1);
        Due.is("25 elsewhere", x.judge(90000, 11, 0, 1), 41);
        Due.is("25 elsewhere, the place", x.judge(90000, 11, 0, 2), 11);
        Due.is("25 elsewhere shut", x.judge(90000, 10, 0, 0), 0);
        Due.is("25 elsewhere in a wind", x.judge(90068, 11, 1, 0), 0);
        Due.is("25 elsewhere back", x.judge(110000, 11, 1, 2), 11);
        Due.is("27 elsewhere", x.chance(90068, 11), 333);
        Due.is("27 elsewhere, by a slow one", x.chance(90068, 21), 0);
        Due.is("27 elsewhere shut", x.chance(90068, 10), 0);
        x.alter(1, 2, 0);
        x.alter(0, 2, 30);
        Due.is("26 elsewhere", x.wet(90000, 11, 0), 40);
        Due.is("26 elsewhere in a wind", x.wet(90000, 11, 1), 39);
        Due.is("26 elsewhere where it is wet", x.wet(100900, 11, 0), 900);
        x.mark(90000);
        x.mark(100032);
        Due.is("29 elsewhere", x.old(11), 3);
        Due.is("29 elsewhere by a slow one", x.old(21), 0);
        x.mark(100040);
        Due.is("29 elsewhere waiting", x.old(11), 1);
        Due.is("29 elsewhere shut", x.old(10), 0);
        x.mark(100041);
        Due.is("29 elsewhere too wet", x.old(11), 0);
    }

    private static void lastOfTenTides() {
        RoundPoint x = Shore.of("0:999", 998, 40, 998);
        for (int tide = 1; tide < 9; tide++) {
            Shore.tide(x, "0:999");
        }
        Shore.tide(x, TENT);
        x.way(1, 40100);
        x.way(201, 10998);
        Shore.plan(x, 0, 1);
        Due.is("25 tide 9", x.judge(0, 9, 0, 1), 51);
        Due.is("25 the last of all", x.judge(0, 39, 0, 0), 0);
        Due.is("25 a slow one", x.judge(0, 29, 0, 1), 76);
        Due.is("27 tide 9", x.chance(60, 9), 1000);
        Due.is("27 a slow one", x.chance(40, 29), 1000);
        Due.is("27 a slow one later", x.chance(41, 29), 0);
        Shore.plan(x, 1);
        x.alter(1, 2, 0);
        x.alter(0, 0, 80);
        Due.is("26 tide 9", x.wet(10020, 9, 0), RoundPoint.NOT);
        Due.is("26 a slow one", x.wet(10020, 29, 0), 40);
        x.alter(0, 0, 100);
        Due.is("26 a slow one, higher", x.wet(10020, 29, 0), RoundPoint.NOT);
        x.alter(0, 0, 99);
        Due.is("26 a slow one, too high by one", x.wet(10020, 29, 0), 40);
        Shore.plan(x, 0, 140);
        Due.is("26 a slow one there", x.wet(0, 29, 0), 60);
        Due.is("26 tide 9 there", x.wet(0, 9, 0), RoundPoint.NOT);
    }
}
