/** All that can be seen of what is, as one text: two that are alike mean that nothing was done between them. */
final class Photo {
    private Photo() {
    }

    static String of(TalkBridge x) {
        StringBuilder seen = new StringBuilder();
        for (int what = 0; what <= 16; what++) {
            seen.append(x.about(what)).append(' ');
        }
        for (int i = 0; i < x.about(0) * 5; i++) {
            seen.append(x.person(i / 5, i % 5)).append(' ');
        }
        for (int i = 0; i < x.about(1) * 6; i++) {
            seen.append(x.matter(i / 6, i % 6)).append(' ');
        }
        for (int i = 0; i < x.about(13); i++) {
            seen.append(x.lies(i)).append(' ');
        }
        return seen.toString();
    }

    /** A call that is refused answers so, and does nothing. */
    static void refused(TalkBridge x, String call, java.util.function.ToIntFunction<TalkBridge> made, int answer) {
        String before = of(x);
        Due.due(call, made.applyAsInt(x), answer);
        Due.due(call + " does nothing", of(x).equals(before), true);
    }
}
