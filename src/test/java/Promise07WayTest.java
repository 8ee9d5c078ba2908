/** Promise 7: way: A WAY: its number. BAD (one and the same), FULL. */
public final class Promise07WayTest {
    private Promise07WayTest() {
    }

    public static void main(String[] args) {
        minutesFrom1To90();
        heightFromNoughtTo999();
        passableUpToHeight();
        begunAllDayUnlessTold();
        eitherWayAlong();
        betweenTwoPlaces();
        twentyFourAtMost();
        refused();
        Due.end();
    }

    private static void minutesFrom1To90() {
        RoundPoint x = Shore.of("0:0", 0, 0);
        Due.is("7 none", x.way(1, 999), RoundPoint.BAD);
        Due.is("7 the shortest", x.way(1, 1000), 0);
        Due.is("7 the longest", x.way(1, 90000), 1);
        Due.is("7 too long", x.way(1, 91000), RoundPoint.BAD);
        Due.is("7 longest and highest", x.way(1, 90999), 2);
        Due.is("7 three came", x.count(3), 3);
        Due.is("7 one minute", x.takes(0, 0, 0), 1);
        Due.is("7 ninety", x.takes(1, 0, 0), 90);
        Due.is("7 ninety too", x.takes(2, 0, 0), 90);
    }

    private static void heightFromNoughtTo999() {
        RoundPoint x = Shore.of("0:0", 0, 0);
        x.way(1, 1000);
        x.way(1, 1999);
        Due.is("7 the least height", x.alter(0, 0, 5), 0);
        Due.is("7 the greatest height", x.alter(1, 0, 5), 999);
    }

    /** PASSABLE while THE SEA is at most its HEIGHT. */
    private static void passableUpToHeight() {
        RoundPoint x = Shore.of("0:50", 0, 0);
        x.way(1, 10049);
        x.way(1, 20050);
        Due.is("7 below the sea it does not go", x.open(0, 0, 1, 0), 0);
        Due.is("7 at just the sea it goes", x.open(1, 0, 1, 0), 1420);
        Due.is("7 by that one", x.soon(0, 1, 0, 1), 20);
    }

    private static void begunAllDayUnlessTold() {
        RoundPoint x = Shore.strait("0:0", 0, 1000);
        Due.is("7 first hour", x.alter(0, 1, 0), 0);
        Due.is("7 last hour", x.alter(0, 2, 1439), 1439);
        Due.is("7 from the first minute", x.open(0, 0, 1, 1), 0);
        Due.is("7 to the last that it can be walked in", x.open(0, 0, 1, 2), 1438);
    }

    private static void eitherWayAlong() {
        RoundPoint x = Shore.strait("0:0", 0, 7000);
        Due.is("7 on", x.soon(5, 1, 0, 1), 12);
        Due.is("7 back", x.soon(10005, 0, 0, 1), 12);
        Due.is("7 on, from the end", x.last(1, 0, 1), 1432);
        Due.is("7 back, from the end", x.last(100, 0, 1), 1432);
        Shore.plan(x, 0, 0);
        Due.is("7 on and back", x.judge(5, 0, 0, 2), 0);
        Due.is("7 back and on", x.judge(10005, 0, 0, 2), 1);
    }

    private static void betweenTwoPlaces() {
        RoundPoint x = Shore.of("0:0", 0, 0, 0);
        Due.is("7 one and the same, 0", x.way(0, 1000), RoundPoint.BAD);
        Due.is("7 one and the same, 2", x.way(202, 1000), RoundPoint.BAD);
        Due.is("7 no such other", x.way(3, 1000), RoundPoint.BAD);
        Due.is("7 no such one", x.way(300, 1000), RoundPoint.BAD);
        Due.is("7 the last two", x.way(102, 1000), 0);
        Due.is("7 the greater one first", x.way(201, 1000), 1);
        Due.is("7 once more between the two", x.way(102, 1000), 2);
        Due.is("7 they join no other", x.soon(0, 1, 0, 1), RoundPoint.NOT);
        Due.is("7 but these", x.soon(10000, 2, 0, 1), 1);
        // each two places either way round, the way alone
        for (int one = 0; one < 12; one++) {
            for (int other = 0; other < 12; other++) {
                RoundPoint y = Shore.of("0:0", 0, 0, 0, 0, 0, 0, 0, 0, 0, 0, 0, 0);
                int due = one == other ? RoundPoint.BAD : 0;
                Due.is("7 between " + one + " and " + other, y.way(100 * one + other, 3000), due);
                Due.is("7 from " + one + " to " + other, y.soon(10000 * one + 5, other, 0, 1), due == 0 ? 8 : 5);
            }
        }
    }

    private static void twentyFourAtMost() {
        RoundPoint x = Shore.of("0:0", 0, 0);
        for (int way = 0; way < 24; way++) {
            Due.is("7 way " + way, x.way(1, 1000 * (way + 1) + way), way);
        }
        Due.is("7 a twenty-fifth", x.way(1, 1000), RoundPoint.FULL);
        Due.is("7 twenty-four", x.count(3), 24);
        Due.is("7 bad ahead of full", x.way(0, 1000), RoundPoint.BAD);
        Due.is("7 bad ahead of full, too long", x.way(1, 91000), RoundPoint.BAD);
        for (int way = 0; way < 24; way++) {
            Due.is("7 its minutes, way " + way, x.takes(way, 0, 0), way + 1);
            Due.is("7 its height, way " + way, x.alter(way, 0, way), way);
        }
        Due.is("7 no twenty-fifth", x.takes(24, 0, 0), RoundPoint.BAD);
        RoundPoint y = Shore.of("0:0", 0, 0, 0, 0, 0, 0, 0, 0, 0, 0, 0, 0);
        Due.is("7 the last place of all", y.way(11, 1000), 0);
        Due.is("7 beyond it", y.way(12, 1000), RoundPoint.BAD);
        Due.is("7 the last two of all", y.way(1011, 1000), 1);
    }

    private static void refused() {
        Refused.some("7 wrong", RoundPoint.BAD, x -> x.way(0, 1000), x -> x.way(101, 1000), x -> x.way(303, 1000),
            x -> x.way(4, 1000), x -> x.way(400, 1000), x -> x.way(-1, 1000), x -> x.way(-100, 1000), x -> x.way(199, 1000),
            x -> x.way(10001, 1000), x -> x.way(Integer.MAX_VALUE, 1000), x -> x.way(Integer.MIN_VALUE, 1000),
            x -> x.way(1, 0), x -> x.way(1, 999), x -> x.way(1, -1), x -> x.way(1, -1000), x -> x.way(1, 91000),
            x -> x.way(1, Integer.MAX_VALUE), x -> x.way(1, Integer.MIN_VALUE));
        Refused.full("7 full", RoundPoint.FULL, x -> x.way(1, 1000), x -> x.way(1011, 90999));
        Refused.full("7 wrong, full", RoundPoint.BAD, x -> x.way(0, 1000), x -> x.way(1, 999), x -> x.way(12, 1000));
    }
}
