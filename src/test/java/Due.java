/** What the tests of the project share: calls with the answers that are due, and racks told as texts. */
final class Due {
    private static int passed = 0;
    private static int failed = 0;

    private Due() {
    }

    static void is(String call, long got, long want) {
        if (got == want) {
            passed++;
        } else {
            failed++;
            System.out.println(call + " answered " + got + ", due is " + want);
        }
    }

    /** Letters of a text, then rack(). */
    static int told(LeansAgainstReason x, String text) {
        letters(x, text);
        return x.rack();
    }

    static void letters(LeansAgainstReason x, String text) {
        for (int i = 0; i < text.length(); i++) {
            is("letter " + i + " of " + text, x.letter(text.charAt(i)), i + 1);
        }
    }

    /** A new object with a rack told in parts of at most 96 letters. */
    static LeansAgainstReason rack(String... texts) {
        LeansAgainstReason x = new LeansAgainstReason();
        for (String text : texts) {
            int statements = 0;
            for (int i = 0; i < text.length(); i++) {
                statements += text.charAt(i) == ';' ? 1 : 0;
            }
            is("rack of " + text, told(x, text), statements);
        }
        return x;
    }

    static void end(String name) {
        System.out.println(name + ": " + passed + " checks as due, " + failed + " not");
        if (failed != 0) {
            System.exit(1);
        }
    }
}
