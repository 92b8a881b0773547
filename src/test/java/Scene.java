import java.util.ArrayList;
import java.util.List;

/** Objects as they stand before a call that is at an edge; and all that can be seen of an object. */
enum Scene {
    /** A new object. */
    NEW,
    /** Three HEIRS, THE RULE is TEXT 1, a TEXT on THE TAPE, SHEETS 0 .. 2 of sorts 0 .. 2, an older IMAGE. */
    FAMILY,
    /** Six HEIRS of all KINDS, six TEXTS, 160 bytes on THE TAPE, SHEETS 0 .. 2 of 40 items, an IMAGE of two HEIRS. */
    FULL;

    /** So many calls seen() makes at most. */
    static final int SEEN = 150;

    private static final int BLANK = 32;

    Counted make() {
        Counted x = new Counted();
        if (this == FAMILY) {
            makeFamily(x);
        } else if (this == FULL) {
            makeFull(x);
        }
        return x;
    }

    private static void makeFamily(Counted x) {
        Check.heir(x, 1, 3, 3, 5);
        x.set(0, 0, 10);
        x.image();
        x.set(0, 0, 40);
        x.set(1, 0, 4);
        x.set(2, 0, Check.bits(3, 5, 30));
        Check.heir(x, 0, 0, 5, 6, 8, 10);
        Check.heir(x, 4, 7, 12);
        Check.text(x, "says 2;meant n<50;worth 3;");
        x.force(1);
        for (int sort = 0; sort < 3; sort++) {
            Check.sheet(x, sort, sort, 0, sort, 5, 9, 2, 4);
        }
        Check.feed(x, "says 4;meant 1;worth 2;");
    }

    private static void makeFull(Counted x) {
        for (int kind = 0; kind < 6; kind++) {
            if (kind == 2) {
                x.image();
            }
            Check.heir(x, kind, kind + 1, kind + 1, 12);
        }
        for (int text = 1; text < 6; text++) {
            Check.text(x, "says " + text + ";meant 1;worth 1;");
        }
        x.force(5);
        x.set(0, 0, 99);
        for (int sort = 0; sort < 3; sort++) {
            x.sheet(sort, sort, 40);
            x.cell(sort, 1, 7);
            x.cell(sort, 5, sort);
        }
        for (int i = 0; i < 160; i++) {
            x.feed(BLANK);
        }
    }

    /** All that can be seen of an object, in a row of answers; it is changed by that, and of no more use. */
    static List<Long> seen(Counted x) {
        List<Long> row = new ArrayList<>();
        seeFamily(x, row);
        for (int text = 0; text < 6; text++) {
            seeText(x, text, row);
        }
        for (int sheet = 0; sheet < 4; sheet++) {
            seeSheet(x, sheet, row);
        }
        row.add((long) x.text());
        seeText(x, x.count(1) - 1, row);
        row.add((long) x.back());
        seeFamily(x, row);
        row.add((long) x.image());
        for (int sheet = 0; sheet < 3; sheet++) {
            seeItems(x, sheet, row);
        }
        return row;
    }

    private static void seeFamily(Counted x, List<Long> row) {
        for (int what = 0; what < 5; what++) {
            row.add((long) x.count(what));
        }
        row.add((long) x.told(0, 0));
        int family = x.count(0);
        for (int heir = 0; heir < family; heir++) {
            row.add(16L * x.told(heir, 2) + x.told(heir, 1));
            row.add((long) x.told(heir, 3));
        }
    }

    private static void seeText(Counted x, int text, List<Long> row) {
        row.add((long) x.force(text));
        for (int what = 1; what < 4; what++) {
            row.add((long) x.says(0, 7, what));
        }
    }

    private static void seeSheet(Counted x, int sheet, List<Long> row) {
        for (int sort = 0; sort < 3; sort++) {
            row.add((long) x.heirs(sheet, sort, 0, 0));
        }
        int least = 0;
        int most = 41;
        while (least + 1 < most) {
            int size = (least + most) / 2;
            if (x.copy(sheet, 0, sheet, 0, size) == size) {
                least = size;
            } else {
                most = size;
            }
        }
        row.add((long) least);
    }

    /** The first items, as HEIRS that come of them; those go again by the IMAGE. */
    private static void seeItems(Counted x, int sheet, List<Long> row) {
        row.add((long) x.heirs(sheet, sheet, 0, 3));
        int family = x.count(0);
        for (int heir = Math.max(0, family - 3); heir < family; heir++) {
            row.add(16L * x.told(heir, 3) + x.told(heir, 1));
        }
        x.back();
    }
}
