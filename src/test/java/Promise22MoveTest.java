/** Promise 22: move: A move comes to THE PLAN: how many it has. BAD (no such), FULL: 12. */
public final class Promise22MoveTest {
    private Promise22MoveTest() {
    }

    public static void main(String[] args) {
        waysThatAreThere();
        allTwentyFourWays();
        waitsFrom1To240();
        twelveAtMost();
        inTheirOrder();
        refused();
        Due.end();
    }

    private static void waysThatAreThere() {
        RoundPoint x = Shore.of("0:0", 0, 0);
        Due.is("22 no way yet", x.move(0), RoundPoint.BAD);
        x.way(1, 1000);
        Due.is("22 the first way", x.move(0), 1);
        Due.is("22 no second yet", x.move(1), RoundPoint.BAD);
        x.way(1, 1000);
        Due.is("22 the second", x.move(1), 2);
        Due.is("22 below", x.move(-1), RoundPoint.BAD);
        Due.is("22 two came", x.count(5), 2);
    }

    private static void allTwentyFourWays() {
        RoundPoint x = Shore.of("0:0", 0, 0);
        for (int way = 0; way < 24; way++) {
            x.way(1, 1000);
        }
        Due.is("22 way 23", x.move(23), 1);
        Due.is("22 no way 24", x.move(24), RoundPoint.BAD);
        for (int v = 24; v <= 100; v++) {
            Due.is("22 neither way nor wait: " + v, x.move(v), RoundPoint.BAD);
        }
        Due.is("22 one came", x.count(5), 1);
    }

    private static void waitsFrom1To240() {
        RoundPoint x = Shore.of("0:0", 0);
        Due.is("22 a wait of none", x.move(100), RoundPoint.BAD);
        Due.is("22 a wait of 1", x.move(101), 1);
        Due.is("22 a wait of 240", x.move(340), 2);
        Due.is("22 a wait of 241", x.move(341), RoundPoint.BAD);
        Due.is("22 so long they are", x.judge(0, 0, 0, 1), 241);
    }

    private static void twelveAtMost() {
        RoundPoint x = Shore.of("0:0", 0);
        for (int n = 1; n <= 12; n++) {
            Due.is("22 move " + n, x.move(100 + n), n);
        }
        Due.is("22 a thirteenth", x.move(101), RoundPoint.FULL);
        Due.is("22 twelve", x.count(5), 12);
        Due.is("22 bad ahead of full", x.move(100), RoundPoint.BAD);
        Due.is("22 bad ahead of full, no way", x.move(0), RoundPoint.BAD);
        Due.is("22 as they were told", x.judge(0, 0, 0, 1), 78);
        x.drop();
        Due.is("22 from the beginning again", x.move(101), 1);
    }

    private static void inTheirOrder() {
        RoundPoint x = Shore.of("0:0", 0, 0, 0);
        x.way(1, 10000);
        x.way(102, 10000);
        x.move(0);
        x.move(105);
        x.move(1);
        Due.is("22 on, waiting, on", x.judge(0, 0, 0, 1), 26);
        Due.is("22 to the far place", x.judge(0, 0, 0, 2), 2);
    }

    private static void refused() {
        Refused.some("22 no such", RoundPoint.BAD, x -> x.move(-1), x -> x.move(4), x -> x.move(24), x -> x.move(99),
            x -> x.move(100), x -> x.move(341), x -> x.move(Integer.MAX_VALUE), x -> x.move(Integer.MIN_VALUE));
        Refused.full("22 full", RoundPoint.FULL, x -> x.move(0), x -> x.move(23), x -> x.move(101), x -> x.move(340));
        Refused.full("22 no such, full", RoundPoint.BAD, x -> x.move(24), x -> x.move(100), x -> x.move(341));
    }
}
