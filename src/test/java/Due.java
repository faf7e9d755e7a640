/** What the tests share: answers against those that are due, and texts fed as bytes. */
final class Due {
    private static int wrong = 0;
    private static int seen = 0;
    private static String under = "";

    private Due() {
    }

    static void due(String call, long got, long want) {
        seen++;
        if (got != want) {
            wrong++;
            System.out.println(under + call + " answered " + got + ", due is " + want);
        }
    }

    static void due(String call, boolean got, boolean want) {
        due(call, got ? 1 : 0, want ? 1 : 0);
    }

    /** What is wrong from now on is told with these words ahead. */
    static void under(String words) {
        under = words;
    }

    static int seen() {
        return seen;
    }

    /** Feeds a text, twenty bytes at a time, and cuts off what filled it up. */
    static void feed(TalkBridge x, String text) {
        StringBuilder full = new StringBuilder(text);
        while (full.length() % 20 != 0) {
            full.append(' ');
        }
        int[] fours = new int[5];
        for (int at = 0; at < full.length(); at += 20) {
            for (int i = 0; i < 5; i++) {
                fours[i] = four(full, at + 4 * i);
            }
            x.feed(fours[0], fours[1], fours[2], fours[3], fours[4]);
        }
        x.end(text.length());
    }

    private static int four(CharSequence text, int at) {
        return text.charAt(at) << 24 | text.charAt(at + 1) << 16 | text.charAt(at + 2) << 8 | text.charAt(at + 3);
    }

    /** A new object whose RIVER is that text; a text with a FAULT is a fault of the test. */
    static TalkBridge river(String text) {
        TalkBridge x = new TalkBridge();
        feed(x, text);
        if (x.river() < 0) {
            due("river() of \"" + text + "\": fault " + x.fault(0) + " at " + x.fault(1), -1, 0);
        }
        return x;
    }

    static void sound(String text) {
        faulty(text, 0, -1);
    }

    /** What river() makes of a text, by a new object. */
    static void faulty(String text, int fault, int place) {
        TalkBridge x = new TalkBridge();
        feed(x, text);
        int answer = x.river();
        due("fault(0) of \"" + text + "\"", x.fault(0), fault);
        due("fault(1) of \"" + text + "\"", x.fault(1), place);
        due("river() of \"" + text + "\" is NONE", answer < 0, fault != 0);
    }

    static void finish(String name) {
        System.out.println(name + ": " + seen + " answers, " + wrong + " not as due");
        if (wrong != 0) {
            System.exit(1);
        }
    }
}
