/** Promises 25 to 29: sheet, cell, copy, heirs, taken. */
public final class HostTest {
    private static final Check CHECK = new Check();

    public static void main(String[] args) {
        sheet();
        cell();
        copy();
        copyRefused();
        heirs();
        heirsRefused();
        taken();
        CHECK.close();
    }

    private static void sheet() {
        Counted x = new Counted();
        CHECK.due("SHEET too great", x.sheet(4, 0, 1), -2);
        CHECK.due("SHEET below 0", x.sheet(-1, 0, 1), -2);
        CHECK.due("no such sort", x.sheet(0, 3, 1), -2);
        CHECK.due("sort -2", x.sheet(0, -2, 1), -2);
        CHECK.due("41", x.sheet(0, 0, 41), -2);
        CHECK.due("below 0", x.sheet(0, 0, -1), -14);
        CHECK.due("sort ahead of -14", x.sheet(0, 3, -1), -2);
        CHECK.due("refused: still missing", x.cell(0, 0, 0), -11);
        CHECK.due("40", x.sheet(0, 0, 40), 1);
        CHECK.due("the last", x.cell(0, 39, 1), 1);
        CHECK.due("none", x.sheet(1, 2, 0), 1);
        CHECK.due("none: no place", x.cell(1, 0, 0), -12);
        CHECK.due("missing, any n", x.sheet(0, -1, 41), 1);
        CHECK.due("missing, any n", x.sheet(1, -1, -5), 1);
        CHECK.due("missing", x.cell(0, 0, 0), -11);
        CHECK.due("missing", x.cell(1, 0, 0), -11);
        // Made anew, a SHEET is all 0.
        Check.sheet(x, 2, 2, 5, 5);
        x.sheet(2, 2, 2);
        CHECK.due("HEIRS of 0, 0", x.heirs(2, 2, 0, 1), 1);
        CHECK.due("KIND 0", x.told(0, 3), 0);
        CHECK.due("MORE 0", x.told(0, 1), 0);
        CHECK.due("refused", x.sheet(2, 2, 41), -2);
        CHECK.due("refusals change nothing", x.cell(2, 1, 1), 1);
    }

    private static void cell() {
        Counted x = new Counted();
        CHECK.due("SHEET too great", x.cell(4, 0, 1), -2);
        CHECK.due("SHEET below 0", x.cell(-1, 0, 1), -2);
        CHECK.due("missing ahead of a place", x.cell(0, -1, 1), -11);
        x.sheet(0, 1, 3);
        CHECK.due("place below 0", x.cell(0, -1, 1), -12);
        CHECK.due("place behind", x.cell(0, 3, 1), -12);
        CHECK.due("far place", x.cell(0, Integer.MAX_VALUE, 1), -12);
        // What an item is is seen by the HEIR that comes of it.
        item(0, 0x7f05, 5);
        item(0, 0x105, 5);
        item(0, 0x80, NumbersInherited.NONE);
        item(1, 0x7fff0005, 5);
        item(1, 0x105, NumbersInherited.NONE);
        item(2, 5, 5);
        item(2, 0x10005, NumbersInherited.NONE);
    }

    private static void item(int sort, int v, int more) {
        Counted x = new Counted();
        x.sheet(0, sort, 2);
        CHECK.due("cell of sort " + sort, x.cell(0, 1, v), 1);
        CHECK.due("HEIR by " + v, x.heirs(0, sort, 0, 1), more < 0 ? 0 : 1);
        CHECK.due("MORE by " + v, x.told(0, 1), more < 0 ? -2 : more);
    }

    private static void copy() {
        Counted x = new Counted();
        Check.sheet(x, 0, 2, 1, 2, 3, 4, 5, 6);
        Check.sheet(x, 1, 2, 0, 0, 0, 0);
        CHECK.due("three", x.copy(0, 2, 1, 1, 3), 3);
        items(x, 1, 0, 3, 4, 5);
        items(x, 0, 1, 2, 3, 4, 5);
        CHECK.due("within one, on", x.copy(0, 0, 0, 1, 4), 4);
        items(x, 0, 1, 1, 2, 3, 4);
        CHECK.due("within one, back", x.copy(0, 2, 0, 0, 4), 4);
        items(x, 0, 2, 3, 4, 6, 4);
        CHECK.due("all", x.copy(1, 0, 0, 2, 4), 4);
        items(x, 0, 2, 3, 0, 3, 4);
        CHECK.due("none at the end", x.copy(1, 4, 0, 6, 0), 0);
    }

    /** The first items of a SHEET of ints, each seen as MORE of an HEIR in another object's like SHEET. */
    private static void items(Counted x, int sheet, int... want) {
        x.image();
        for (int i = 0; i < want.length; i++) {
            x.sheet(3, 2, 2);
            x.copy(sheet, i, 3, 1, 1);
            x.heirs(3, 2, 0, 1);
            CHECK.due("item " + i + " of SHEET " + sheet, x.told(0, 1), want[i]);
            x.back();
        }
    }

    private static void copyRefused() {
        Counted x = new Counted();
        x.sheet(0, 1, 6);
        x.sheet(1, 1, 4);
        x.sheet(2, 2, 4);
        CHECK.due("SHEET too great", x.copy(4, 0, 3, 0, 1), -2);
        CHECK.due("other too great", x.copy(3, 0, 4, 0, 1), -2);
        CHECK.due("SHEET below 0", x.copy(-1, 0, 0, 0, 1), -2);
        CHECK.due("other below 0", x.copy(0, 0, -1, 0, 1), -2);
        CHECK.due("missing", x.copy(3, 0, 0, 0, -1), -11);
        CHECK.due("other missing", x.copy(0, 0, 3, 0, -1), -11);
        CHECK.due("unlike", x.copy(0, 0, 2, 0, -1), -13);
        CHECK.due("n below 0", x.copy(0, 0, 1, 0, -1), -12);
        CHECK.due("place below 0", x.copy(0, -1, 1, 0, 1), -12);
        CHECK.due("other place below 0", x.copy(0, 0, 1, -1, 1), -12);
        CHECK.due("too many", x.copy(0, 3, 1, 0, 4), -12);
        CHECK.due("too many for the other", x.copy(0, 0, 1, 2, 3), -12);
        CHECK.due("far", x.copy(0, Integer.MAX_VALUE, 1, 0, 1), -12);
        CHECK.due("far", x.copy(0, 1, 1, 0, Integer.MAX_VALUE), -12);
        CHECK.due("none behind the end", x.copy(0, 7, 1, 0, 0), -12);
        CHECK.due("none below 0", x.copy(0, 0, 1, -1, 0), -12);
    }

    private static void heirs() {
        Counted x = new Counted();
        Check.sheet(x, 0, 0, 9, 3, 7, 6, 0, 2, 10, 5, 1);
        CHECK.due("two of four", x.heirs(0, 0, 1, 4), 2);
        CHECK.due("KIND 3", x.told(0, 3), 3);
        CHECK.due("MORE 7", x.told(0, 1), 7);
        CHECK.due("KIND 5", x.told(1, 3), 5);
        CHECK.due("MORE 1", x.told(1, 1), 1);
        CHECK.due("none of 0", x.heirs(0, 0, 1, 0), 0);
        Check.sheet(x, 1, 2, 0, 1, 1, 2, 2, 3, 3, 4, 4, 5, 5, 6);
        CHECK.due("as many as there is room for", x.heirs(1, 2, 0, 6), 4);
        CHECK.due("six", x.count(0), 6);
        CHECK.due("the last", x.told(5, 1), 4);
        CHECK.due("FULL ones are left out", x.heirs(1, 2, 0, 6), 0);
        CHECK.due("but a place outside is not", x.heirs(1, 2, 10, 2), -12);
    }

    private static void heirsRefused() {
        Counted x = new Counted();
        Check.sheet(x, 0, 1, 0, 1, 0, 2, 0);
        CHECK.due("SHEET too great", x.heirs(4, 0, 0, 1), -2);
        CHECK.due("SHEET below 0", x.heirs(-1, 0, 0, 1), -2);
        CHECK.due("no such sort", x.heirs(0, 3, 0, 1), -2);
        CHECK.due("sort -1", x.heirs(0, -1, 0, 1), -2);
        CHECK.due("n below 0", x.heirs(0, 1, 0, -1), -2);
        CHECK.due("n 7", x.heirs(0, 1, 0, 7), -2);
        CHECK.due("of another sort", x.heirs(0, 2, 0, 1), -13);
        CHECK.due("of another sort, none", x.heirs(0, 0, 0, 0), -13);
        CHECK.due("missing", x.heirs(1, 1, 0, 1), -11);
        CHECK.due("missing, none", x.heirs(1, 0, 0, 0), -11);
        CHECK.due("from below 0", x.heirs(0, 1, -1, 1), -12);
        CHECK.due("from the least", x.heirs(0, 1, Integer.MIN_VALUE, 1), -12);
        CHECK.due("from behind", x.heirs(0, 1, 5, 1), -12);
        CHECK.due("from far behind", x.heirs(0, 1, Integer.MAX_VALUE, 6), -12);
        CHECK.due("half of one", x.heirs(0, 1, 4, 1), -12);
        CHECK.due("none came till now", x.count(0), 0);
        CHECK.due("the third is outside", x.heirs(0, 1, 0, 3), -12);
        CHECK.due("what stood ahead came", x.count(0), 2);
        CHECK.due("its MORE", x.told(1, 1), 2);
    }

    private static void taken() {
        Counted x = new Counted();
        for (int kind = 0; kind < 6; kind++) {
            x.heir(kind, kind + 3);
        }
        int[] isTaken = {0b000001, 0b000011, 0b000101, 0b001011, 0b010101, 0b100001};
        for (int heir = 0; heir < 6; heir++) {
            for (int kind = 0; kind < 6; kind++) {
                int want = (isTaken[heir] >> kind & 1) == 1 ? heir + 3 : -13;
                CHECK.due("KIND " + heir + " taken for " + kind, x.taken(heir, kind), want);
            }
        }
        CHECK.due("KIND too great, no such HEIR", x.taken(6, 6), -2);
        CHECK.due("KIND below 0", x.taken(0, -1), -2);
        CHECK.due("no such HEIR", x.taken(6, 0), -11);
        CHECK.due("HEIR below 0", x.taken(-1, 0), -11);
    }
}
