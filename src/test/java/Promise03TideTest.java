/** Promise 3: tide: THE TAPE becomes a TIDE: its number; -100 less its FAULT; THE TAPE is empty then. FULL (it stays). */
public final class Promise03TideTest {
    private Promise03TideTest() {
    }

    public static void main(String[] args) {
        onePointAtLeast();
        twelvePointsAtMost();
        minuteDigits();
        heightDigits();
        minutesUpTo1439();
        minutesRise();
        noBlanks();
        noOtherBytes();
        endsTooEarly();
        toItsOwnEndAlone();
        longestText();
        faultChangesNoTide();
        tenTides();
        tenTidesOfTwelvePoints();
        Due.end();
    }

    private static void right(String text, int minute, int height) {
        RoundPoint x = new RoundPoint();
        Due.is("3 " + text, Shore.tide(x, text), 0);
        Due.is("3 the tape behind " + text, x.count(4), 0);
        Due.is("3 tides behind " + text, x.count(0), 1);
        Due.is("3 read of " + text, x.sea(0, 0, minute), height);
    }

    private static void fault(String text, int place) {
        RoundPoint x = new RoundPoint();
        Due.is("3 fault of " + text, Shore.tide(x, text), -100 - place);
        Due.is("3 the tape behind " + text, x.count(4), 0);
        Due.is("3 tides behind " + text, x.count(0), 0);
    }

    private static void onePointAtLeast() {
        fault("", 0);
        right("0:0", 0, 0);
        right("1439:999", 1439, 999);
    }

    private static void twelvePointsAtMost() {
        String eleven = "0:1;1:1;2:1;3:1;4:1;5:1;6:1;7:1;8:1;9:1;10:1";
        right(eleven, 10, 1);
        right(eleven + ";11:7", 11, 7);
        // a thirteenth point: its ;
        fault(eleven + ";11:7;", 49);
        fault(eleven + ";11:7;12:1", 49);
        fault(eleven + ";11:7;5:1", 49);
        fault(eleven + ";11:7;x", 49);
        fault(eleven + ";11:7x", 49);
        fault(eleven + ";", 45);
        fault(eleven + ";11", 47);
    }

    private static void minuteDigits() {
        right("5:9", 5, 9);
        right("15:9", 15, 9);
        right("115:9", 115, 9);
        right("1115:9", 1115, 9);
        right("0005:9", 5, 9);
        right("0000:9", 0, 9);
        fault(":9", 0);
        fault("00005:9", 4);
        fault("11115:9", 4);
        fault("5:9;:9", 4);
        fault("5:9;01006:9", 8);
    }

    private static void heightDigits() {
        right("5:0", 5, 0);
        right("5:99", 5, 99);
        right("5:999", 5, 999);
        right("5:007", 5, 7);
        right("5:000", 5, 0);
        fault("5:1000", 5);
        fault("5:0000", 5);
        fault("5:;6:1", 2);
        fault("5:9;6:1000", 9);
        fault("5:9;6:;", 6);
    }

    /** A MINUTE above 1439: its first digit. */
    private static void minutesUpTo1439() {
        right("1439:9", 1439, 9);
        right("0:1;1439:9", 1439, 9);
        fault("1440:9", 0);
        fault("1440", 0);
        fault("1440x", 0);
        fault("9999:9", 0);
        fault("14400:9", 0);
        fault("0:1;1440:9", 4);
        fault("0:1;9999", 4);
        // a MINUTE that does not rise stands in the way alike
        fault("1439:1;1440:1", 7);
        fault("1439:1;1439:1", 7);
        fault("1439:1;0:1", 7);
    }

    /** A MINUTE that does not rise: its first digit. */
    private static void minutesRise() {
        right("5:1;6:2", 6, 2);
        fault("5:1;5:2", 4);
        fault("5:1;4:2", 4);
        fault("5:1;0:2", 4);
        fault("5:1;005:2", 4);
        fault("5:1;5", 4);
        fault("6:6;5;", 4);
        fault("6:6;5x", 4);
        fault("999:1;1000:2;1000:3", 13);
        right("999:1;1000:2", 1000, 2);
        fault("1000:1;999:2", 7);
        fault("10:1;20:2;15:3", 10);
        // between the ones ahead is not risen either
        fault("10:1;30:2;20:3", 10);
        right("0:1;1:2;2:3", 2, 3);
        fault("0:1;0:2", 4);
    }

    private static void noBlanks() {
        fault(" 5:1", 0);
        fault("5 :1", 1);
        fault("5: 1", 2);
        fault("5:1 ", 3);
        fault("5:1 ;6:1", 3);
        fault("5:1; 6:1", 4);
        fault("5:1\n", 3);
        fault("\t5:1", 0);
    }

    private static void noOtherBytes() {
        char[] beside = {'/', (char) 0, (char) 176, (char) 255, 'x', '-', '+', '.'};
        for (char c : beside) {
            fault(c + "5:1", 0);
            fault("5" + c + ":1", 1);
            fault("5:" + c + "1", 2);
            fault("5:1" + c, 3);
            fault("5:1;" + c, 4);
        }
        fault("::1", 0);
        fault("5::1", 2);
        fault("5:1:", 3);
        fault(";5:1", 0);
        fault("5;6:1", 1);
        fault("5:1;;", 4);
        fault("5:1,6:1", 3);
    }

    /** The length, if it ends too early. */
    private static void endsTooEarly() {
        fault("5", 1);
        fault("1439", 4);
        fault("5:", 2);
        fault("5:1;", 4);
        fault("5:1;6", 5);
        fault("5:1;1439", 8);
        fault("5:1;6:", 6);
    }

    /** What stood on THE TAPE ahead is not read behind the length. */
    private static void toItsOwnEndAlone() {
        String ahead = "0:12;5:34";
        String[] texts = {"", "0", "0:", "0:12;", "0:12;5", "0:12;5:"};
        for (String text : texts) {
            RoundPoint x = new RoundPoint();
            Due.is("3 the longer one", Shore.tide(x, ahead), 0);
            Due.is("3 behind the longer one: " + text, Shore.tide(x, text), -100 - text.length());
        }
        RoundPoint x = new RoundPoint();
        Shore.tide(x, ahead);
        Due.is("3 a shorter one", Shore.tide(x, "0:1"), 1);
        Due.is("3 a shorter one is as low", x.sea(1, 0, 0), 1);
        Due.is("3 one without the second point", Shore.tide(x, "0:12"), 2);
        Due.is("3 it has one point", x.sea(2, 0, 1439), 12);
    }

    private static void longestText() {
        StringBuilder text = new StringBuilder("0001:999");
        for (int minute = 1429; minute < 1440; minute++) {
            text.append(';').append(minute).append(":999");
        }
        Due.is("3 the longest text that there is", text.length(), 107);
        right(text.toString(), 1439, 999);
    }

    private static void faultChangesNoTide() {
        RoundPoint x = new RoundPoint();
        Shore.tide(x, "5:1;10:6");
        Due.is("3 a fault behind a tide", Shore.tide(x, "7:9;8:9x"), -107);
        Due.is("3 no tide of it", x.sea(1, 0, 0), RoundPoint.VOID);
        Due.is("3 the tide ahead stays", x.sea(0, 0, 7), 3);
        Due.is("3 the tape is empty then", x.tide(), -100);
        Due.is("3 the next one is number 1", Shore.tide(x, "0:4"), 1);
        Due.is("3 it has its own points alone", x.sea(1, 0, 1000), 4);
    }

    private static void tenTides() {
        RoundPoint x = new RoundPoint();
        for (int tide = 0; tide < 10; tide++) {
            Due.is("3 tide " + tide, Shore.tide(x, "0:" + (tide + 1)), tide);
        }
        Shore.tell(x, "0:77;5:78");
        Due.is("3 an eleventh", x.tide(), RoundPoint.FULL);
        Due.is("3 the tape stays", x.count(4), 9);
        Due.is("3 ten tides", x.count(0), 10);
        Due.is("3 so once more", x.tide(), RoundPoint.FULL);
        Due.is("3 the tape goes on", x.feed(1, '0'), 10);
        for (int tide = 0; tide < 10; tide++) {
            Due.is("3 as it was, tide " + tide, x.sea(tide, 0, 700), tide + 1);
        }
        Refused.on(Promise03TideTest::fullOfTides, "3 full", RoundPoint.FULL, y -> y.tide(), y -> y.tide());
    }

    private static void tenTidesOfTwelvePoints() {
        RoundPoint x = new RoundPoint();
        for (int tide = 0; tide < 10; tide++) {
            StringBuilder text = new StringBuilder();
            for (int point = 0; point < 12; point++) {
                text.append(point == 0 ? "" : ";").append(100 * point + tide).append(':').append(50 * point + tide);
            }
            Due.is("3 of twelve points, tide " + tide, Shore.tide(x, text.toString()), tide);
        }
        for (int tide = 0; tide < 10; tide++) {
            for (int point = 0; point < 12; point++) {
                Due.is("3 tide " + tide + " point " + point, x.sea(tide, 0, 100 * point + tide), 50 * point + tide);
            }
        }
    }

    private static RoundPoint fullOfTides() {
        RoundPoint x = Shore.some();
        x.tide();
        for (int tide = 3; tide < 10; tide++) {
            Shore.tide(x, "0:" + tide);
        }
        Shore.tell(x, "0:77;5:78");
        return x;
    }
}
