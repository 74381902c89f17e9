/** What tests of sentences share: each names the document's words, and its checks bear them. */
abstract class Sentences {
    static final int LEAST = Integer.MIN_VALUE;
    static final int MOST = Integer.MAX_VALUE;

    private static String section = "";
    private static String sentence = "";
    private static int nth = 0;

    static void of(String name) {
        section = name;
    }

    static void of(int promise) {
        of("Promise " + promise);
    }

    static void says(String words) {
        sentence = words;
        nth = 0;
        Due.is(section + " has \"" + words + "\"", Doc.names(section, words) ? 1 : 0, 1);
    }

    static void is(long got, long want) {
        nth++;
        Due.is(section + " \"" + sentence + "\", check " + nth, got, want);
    }

    static LeansAgainstReason rack(String... texts) {
        return Due.rack(texts);
    }

    /** A rack told on the last day. */
    static LeansAgainstReason late(String... texts) {
        LeansAgainstReason x = new LeansAgainstReason();
        for (int i = 0; i < 16; i++) {
            x.days(60);
        }
        x.days(39);
        for (String text : texts) {
            if (Due.told(x, text) < 1) {
                throw new IllegalArgumentException(text);
            }
        }
        return x;
    }

    static int told(LeansAgainstReason x, String text) {
        return Due.told(x, text);
    }

    static LeansAgainstReason none() {
        return new LeansAgainstReason();
    }

    static void row(LeansAgainstReason x, int... numbers) {
        x.clear();
        for (int number : numbers) {
            x.row(number);
        }
    }
}
