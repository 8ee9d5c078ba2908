/** Makes objects for the tests: tides told as text, coasts of a few places. */
final class Shore {
    private Shore() {
    }

    static void tell(RoundPoint x, String text) {
        for (int i = 0; i < text.length(); i++) {
            x.feed(1, text.charAt(i));
        }
    }

    static int tide(RoundPoint x, String text) {
        tell(x, text);
        return x.tide();
    }

    /** Places with these SAFES, one tide. */
    static RoundPoint of(String tide, int... safes) {
        RoundPoint x = new RoundPoint();
        tide(x, tide);
        for (int safe : safes) {
            x.place(safe);
        }
        return x;
    }

    static void plan(RoundPoint x, int... moves) {
        x.drop();
        for (int move : moves) {
            x.move(move);
        }
    }
}
