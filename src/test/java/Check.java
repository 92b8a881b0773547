/** Counts answers that are as due, and prints those that are not. */
final class Check {
    static final int CALLS_OF_A_SHEET = 41;

    private int passed;
    private int failed;

    void due(String call, long got, long want) {
        if (got == want) {
            passed++;
        } else {
            failed++;
            System.out.println(call + " answered " + got + ", due is " + want);
        }
    }

    void isSo(String what, boolean so) {
        due(what, so ? 1 : 0, 1);
    }

    /** To be called last: tells how it went, and ends with exit code 1 if an answer was not due. */
    void close() {
        System.out.println(passed + " answers as due, " + failed + " not");
        if (failed != 0 || passed == 0) {
            System.exit(1);
        }
    }

    /** Feeds a text's bytes to THE TAPE. */
    static void feed(Counted x, String text) {
        for (int i = 0; i < text.length(); i++) {
            x.feed(text.charAt(i));
        }
    }

    /** What text() answers of a text on an empty TAPE. */
    static int text(Counted x, String text) {
        feed(x, text);
        return x.text();
    }

    /** NUMBERS as bits. */
    static int bits(int... numbers) {
        int bits = 0;
        for (int n : numbers) {
            bits |= 1 << (n - 1);
        }
        return bits;
    }

    /** A new HEIR with OWN NUMBERS. */
    static int heir(Counted x, int kind, int more, int... own) {
        int heir = x.heir(kind, more);
        x.set(2, heir, bits(own));
        return heir;
    }

    /** A SHEET of a sort with these items: CALLS_OF_A_SHEET at most. */
    static void sheet(Counted x, int sheet, int sort, int... items) {
        x.sheet(sheet, sort, items.length);
        for (int i = 0; i < items.length; i++) {
            x.cell(sheet, i, items[i]);
        }
    }
}
