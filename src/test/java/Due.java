/** Counts the answers that are not as due. */
final class Due {
    private static final long LONGS = 4000000000000000000L;
    private static int wrong = 0;

    private Due() {
    }

    static int wrong() {
        return wrong;
    }

    static void isTrue(String what, boolean holds) {
        if (!holds) {
            wrong++;
            System.out.println(what);
        }
    }

    static void is(String what, long got, long due) {
        if (got != due) {
            wrong++;
            System.out.println(what + " answered " + got + ", due is " + due);
        }
    }

    /** A refusal by a call that answers a long. */
    static void refuses(String what, long got, int refusal) {
        is(what, got, LONGS - refusal);
    }

    /** A row of answers, each due in its place. */
    static void are(String what, long[] got, long... due) {
        is(what + ", how many", got.length, due.length);
        for (int i = 0; i < got.length && i < due.length; i++) {
            is(what + " [" + i + "]", got[i], due[i]);
        }
    }

    static void end() {
        if (wrong != 0) {
            System.out.println(wrong + " answers are not as due");
            System.exit(1);
        }
    }

    /** A new object onto whose tape a text came, eight bytes at a time. */
    static MarketRings fed(String text) {
        MarketRings x = new MarketRings();
        feed(x, text);
        return x;
    }

    static void feed(MarketRings x, String text) {
        for (int i = 0; i < text.length(); i += 8) {
            int n = Math.min(8, text.length() - i);
            long bytes = 0;
            for (int k = n - 1; k >= 0; k--) {
                bytes = bytes << 8 | text.charAt(i + k);
            }
            x.feed(n, bytes);
        }
    }

    /** A new object with a land. */
    static MarketRings land(String text) {
        MarketRings x = fed(text);
        is("read of " + text, x.read(), text.replace("/", "").length());
        return x;
    }
}
