/** Promise 2: feed: n (1 .. 4) bytes come to THE TAPE, the lowest of v first: how many it has. BAD, FULL. */
public final class Promise02FeedTest {
    private Promise02FeedTest() {
    }

    public static void main(String[] args) {
        oneToFourBytes();
        lowestFirst();
        onlySoMany();
        everyByteIsTaken();
        fullAt120();
        fullChangesNothing();
        emptyAgain();
        refused();
        Due.end();
    }

    private static void oneToFourBytes() {
        RoundPoint x = new RoundPoint();
        Due.is("2 one", x.feed(1, '5'), 1);
        Due.is("2 two more", x.feed(2, '0'), 3);
        Due.is("2 three more", x.feed(3, '0'), 6);
        Due.is("2 four more", x.feed(4, '0'), 10);
        Due.is("2 so many it has", x.count(4), 10);
    }

    private static void lowestFirst() {
        RoundPoint x = new RoundPoint();
        x.feed(4, '0' | ':' << 8 | '1' << 16 | '2' << 24);
        x.feed(1, '3');
        Due.is("2 read in this order", x.tide(), 0);
        Due.is("2 lowest first", x.sea(0, 0, 0), 123);
        x.feed(4, '0' << 24 | ':' << 16 | '1' << 8 | '2');
        Due.is("2 the lowest byte is the first: 21:0", x.tide(), 1);
        Due.is("2 read so", x.sea(1, 0, 0), 0);
    }

    /** What of v stands above its n lowest bytes does not come. */
    private static void onlySoMany() {
        for (int n = 1; n <= 3; n++) {
            RoundPoint x = new RoundPoint();
            Shore.tell(x, "0:4");
            int v = '5' | '6' << 8 | '7' << 16 | 'x' << 24;
            Due.is("2 so many " + n, x.feed(n, v), 3 + n);
            Due.is("2 no more of v than " + n, x.tide(), n < 3 ? 0 : -100 - 5);
            Due.is("2 so high with " + n, x.sea(0, 0, 0), n == 1 ? 45 : n == 2 ? 456 : RoundPoint.VOID);
        }
    }

    private static void everyByteIsTaken() {
        for (int b = 0; b < 256; b++) {
            RoundPoint x = new RoundPoint();
            Shore.tell(x, "0:1");
            Due.is("2 byte " + b, x.feed(1, b), 4);
            boolean digit = b >= '0' && b <= '9';
            Due.is("2 read with byte " + b, x.tide(), digit ? 0 : b == ';' ? -104 : -103);
        }
        RoundPoint x = new RoundPoint();
        Due.is("2 the least v", x.feed(4, Integer.MIN_VALUE), 4);
        Due.is("2 the greatest v", x.feed(4, Integer.MAX_VALUE), 8);
        Due.is("2 all bits", x.feed(4, -1), 12);
    }

    private static RoundPoint holding(int bytes) {
        RoundPoint x = new RoundPoint();
        for (int i = 0; i < bytes / 4; i++) {
            x.feed(4, 0);
        }
        if (bytes % 4 > 0) {
            x.feed(bytes % 4, 0);
        }
        return x;
    }

    private static void fullAt120() {
        for (int n = 1; n <= 4; n++) {
            Due.is("2 just 120 by " + n, holding(120 - n).feed(n, 0), 120);
            RoundPoint x = holding(121 - n);
            Due.is("2 121 by " + n, x.feed(n, 0), RoundPoint.FULL);
            Due.is("2 none of them came of " + n, x.count(4), 121 - n);
            Due.is("2 full by " + n, holding(120).feed(n, 0), RoundPoint.FULL);
        }
        Due.is("2 bad ahead of full", holding(120).feed(5, 0), RoundPoint.BAD);
        Due.is("2 bad ahead of full, none", holding(120).feed(0, 0), RoundPoint.BAD);
    }

    private static void fullChangesNothing() {
        Refused.full("2 full", RoundPoint.FULL, x -> x.feed(1, '0'), x -> x.feed(4, -1));
        RoundPoint x = new RoundPoint();
        Shore.tell(x, "5:1x");
        for (int i = 0; i < 28; i++) {
            x.feed(4, 0);
        }
        x.feed(3, 0);
        Due.is("2 two do not fit", x.feed(2, '0'), RoundPoint.FULL);
        Due.is("2 one does", x.feed(1, '0'), 120);
        Due.is("2 what stood there stands", x.tide(), -103);
    }

    private static void emptyAgain() {
        RoundPoint x = holding(120);
        x.tide();
        Due.is("2 empty behind a tide", x.count(4), 0);
        Due.is("2 from the beginning again", x.feed(3, '0' | ':' << 8 | '8' << 16), 3);
        Due.is("2 nothing old is read", x.tide(), 0);
        for (int i = 1; i <= 30; i++) {
            Due.is("2 another 120", x.feed(4, 0), 4 * i);
        }
    }

    private static void refused() {
        Refused.some("2 n wrong", RoundPoint.BAD, x -> x.feed(0, '0'), x -> x.feed(5, '0'), x -> x.feed(-1, '0'),
            x -> x.feed(Integer.MAX_VALUE, '0'), x -> x.feed(Integer.MIN_VALUE, '0'));
        Refused.full("2 n wrong, full", RoundPoint.BAD, x -> x.feed(0, '0'), x -> x.feed(5, '0'));
    }
}
