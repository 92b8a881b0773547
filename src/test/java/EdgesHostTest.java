/** The edges of promises 25 to 29: sheet, cell, copy, heirs, taken. */
public final class EdgesHostTest extends Edges {
    private static final Edges E = new Edges();
    private static final int[] NO_SORT = {-2, 3, Integer.MIN_VALUE, Integer.MAX_VALUE};
    private static final int[] NO_PLACE = {-1, 6, 7, Integer.MIN_VALUE, Integer.MAX_VALUE};

    public static void main(String[] args) {
        sheetBad();
        sheetSize();
        sheetMissing();
        sheetAllZero();
        cellBad();
        cellPlaces();
        cellBits();
        copyBad();
        copyPlaces();
        copyWithinOne();
        copyItems();
        heirsBad();
        heirsPlaces();
        heirsMany();
        heirsLeftOut();
        taken();
        E.close();
    }

    /** An item 0 .. 9 of a SHEET that is there, as MORE of an HEIR who comes of it; else -1. */
    private static long item(Counted x, int sheet, int sort, int i) {
        int scratch = sheet == 3 ? 2 : 3;
        x.sheet(scratch, sort, 2);
        if (x.copy(sheet, i, scratch, 1, 1) != 1) {
            return -12;
        }
        x.image();
        int heir = x.count(0);
        long item = x.heirs(scratch, sort, 0, 1) == 1 ? x.told(heir, 1) : -1;
        x.back();
        return item;
    }

    // ---- 25: sheet

    private static void sheetBad() {
        for (int sort = -1; sort < 3; sort++) {
            int s = sort;
            E.changesNothing("sheet: no SHEET", Scene.FAMILY, NO_SHEET, (x, v) -> x.sheet(v, s, 1), BAD);
            E.changesNothing("sheet: no SHEET, ahead of -14", Scene.FAMILY, NO_SHEET, (x, v) -> x.sheet(v, s, -1),
                BAD);
        }
        for (int sheet = 0; sheet < 4; sheet++) {
            int h = sheet;
            E.changesNothing("sheet: no sort", Scene.FAMILY, NO_SORT, (x, v) -> x.sheet(h, v, 1), BAD);
            E.changesNothing("sheet: no sort, ahead of -14", Scene.FAMILY, NO_SORT, (x, v) -> x.sheet(h, v, -1), BAD);
            for (int sort = 0; sort < 3; sort++) {
                int s = sort;
                int[] above = {41, 42, Integer.MAX_VALUE};
                E.changesNothing("sheet: n above 40", Scene.FAMILY, above, (x, v) -> x.sheet(h, s, v), BAD);
                int[] below = {-1, -2, Integer.MIN_VALUE};
                E.changesNothing("sheet: n below 0", Scene.FAMILY, below, (x, v) -> x.sheet(h, s, v), BELOW_ZERO);
            }
        }
    }

    private static void sheetSize() {
        for (int sheet = 0; sheet < 4; sheet++) {
            for (int sort = 0; sort < 3; sort++) {
                for (int n : new int[] {0, 1, 39, 40}) {
                    int h = sheet;
                    int s = sort;
                    Setting laid = x -> x.sheet(h, s, n);
                    E.answered("sheet: n 0 .. 40", Scene.FAMILY, x -> x.sheet(h, s, n), 1);
                    E.due("sheet: the last of " + n, ask(Scene.FAMILY, laid, x -> x.cell(h, n - 1, 1)),
                        n == 0 ? OUTSIDE : 1);
                    E.due("sheet: behind the last of " + n, ask(Scene.FAMILY, laid, x -> x.cell(h, n, 1)), OUTSIDE);
                    for (int of = 0; of < 3; of++) {
                        int o = of;
                        E.due("sheet: of its sort", ask(Scene.FAMILY, laid, x -> x.heirs(h, o, 0, 0)),
                            of == sort ? 0 : UNLIKE);
                    }
                }
            }
        }
    }

    private static void sheetMissing() {
        for (int sheet = 0; sheet < 4; sheet++) {
            for (int n : new int[] {0, 1, 40, 41, -1, Integer.MIN_VALUE, Integer.MAX_VALUE}) {
                int h = sheet;
                E.answered("sheet: missing: n does not matter", Scene.FAMILY, x -> x.sheet(h, -1, n), 1);
                E.due("sheet: missing then", ask(Scene.FAMILY, x -> x.sheet(h, -1, n), x -> x.cell(h, 0, 1)), NOTHING);
            }
        }
        E.due("sheet: there again, and 0", ask(Scene.FAMILY, x -> {
            x.sheet(1, -1, 0);
            x.sheet(1, 1, 6);
        }, x -> item(x, 1, 1, 1)), 0);
    }

    private static void sheetAllZero() {
        for (int sort = 0; sort < 3; sort++) {
            int s = sort;
            for (int i : new int[] {0, 1, 20, 39}) {
                E.due("sheet: all 0, whatever stood there", ask(Scene.NEW, x -> {
                    x.sheet(0, s, 40);
                    for (int k = 0; k < 40; k++) {
                        x.cell(0, k, 7);
                    }
                    x.sheet(0, s, 40);
                }, x -> item(x, 0, s, i)), 0);
                E.due("sheet: all 0, also what was outside between", ask(Scene.NEW, x -> {
                    x.sheet(0, s, 40);
                    for (int k = 0; k < 40; k++) {
                        x.cell(0, k, 7);
                    }
                    x.sheet(0, s, 1);
                    x.sheet(0, s, 40);
                }, x -> item(x, 0, s, i)), 0);
            }
        }
        E.due("sheet: others stay", ask(Scene.FAMILY, x -> x.sheet(0, 0, 6), x -> item(x, 1, 1, 1)), 1);
    }

    // ---- 26: cell

    private static void cellBad() {
        E.changesNothing("cell: no SHEET", Scene.FAMILY, NO_SHEET, (x, v) -> x.cell(v, 0, 1), BAD);
        E.changesNothing("cell: no SHEET, outside", Scene.FAMILY, NO_SHEET, (x, v) -> x.cell(v, -1, 1), BAD);
        E.changesNothing("cell: missing", Scene.FAMILY, x -> x.cell(3, 0, 1), NOTHING);
        E.changesNothing("cell: missing, ahead of outside", Scene.FAMILY, NO_PLACE, (x, v) -> x.cell(3, v, 1), NOTHING);
        for (int sheet = 0; sheet < 3; sheet++) {
            int h = sheet;
            E.changesNothing("cell: outside of 6", Scene.FAMILY, NO_PLACE, (x, v) -> x.cell(h, v, 1), OUTSIDE);
            int[] no = {-1, 40, 41, Integer.MIN_VALUE, Integer.MAX_VALUE};
            E.changesNothing("cell: outside of 40", Scene.FULL, no, (x, v) -> x.cell(h, v, 1), OUTSIDE);
            E.changesNothing("cell: outside of none", Scene.FAMILY, x -> x.sheet(h, h, 0), x -> x.cell(h, 0, 1),
                OUTSIDE);
        }
    }

    private static void cellPlaces() {
        for (int sheet = 0; sheet < 3; sheet++) {
            int h = sheet;
            for (int i : new int[] {0, 5}) {
                E.answered("cell: first and last of 6", Scene.FAMILY, x -> x.cell(h, i, 8), 1);
                E.due("cell: it becomes v", ask(Scene.FAMILY, x -> x.cell(h, i, 8), x -> item(x, h, h, i)), 8);
                E.due("cell: others stay", ask(Scene.FAMILY, x -> x.cell(h, i, 8), x -> item(x, h, h, 3)), 9);
            }
            E.answered("cell: the last of 40", Scene.FULL, x -> x.cell(h, 39, 8), 1);
        }
    }

    private static void cellBits() {
        int[][] bytes = {{256, 0}, {263, 7}, {-249, 7}, {0x7fffff05, 5}, {Integer.MIN_VALUE, 0}, {9, 9}, {10, -1},
            {255, -1}, {128, -1}, {127, -1}, {-128, -1}};
        int[][] shorts = {{65536, 0}, {65543, 7}, {-65529, 7}, {0x7fff0005, 5}, {Integer.MIN_VALUE, 0}, {9, 9}, {256, -1},
            {263, -1}, {65535, -1}, {32768, -1}};
        int[][] ints = {{0, 0}, {9, 9}, {256, -1}, {65536, -1}, {65543, -1}, {Integer.MIN_VALUE, -1},
            {Integer.MAX_VALUE, -1}, {0x7fff0005, -1}};
        int[][][] of = {bytes, shorts, ints};
        for (int sort = 0; sort < 3; sort++) {
            int s = sort;
            for (int[] cell : of[sort]) {
                E.due("cell: the lowest bits of sort " + sort + ": " + cell[0],
                    ask(Scene.FAMILY, x -> x.cell(s, 2, cell[0]), x -> item(x, s, s, 2)), cell[1]);
                E.answered("cell: 1, whatever v", Scene.FAMILY, x -> x.cell(s, 2, cell[0]), 1);
            }
            // -1 is NONE in each sort: SUM 1 can't be.
            int[][] none = {{-1, 255, -257, 511}, {-1, 65535, 131071}, {-1}};
            for (int v : none[sort]) {
                E.due("cell: -1 of sort " + sort + ": " + v,
                    ask(Scene.NEW, x -> {
                        x.heir(0, 0);
                        x.heir(0, 0);
                        Check.sheet(x, 0, s, 1, v);
                    }, x -> x.rows(0, 0, 1, 0)), NumbersInherited.NONE);
            }
        }
        int[][] otherwise = {{1, 255}, {1, 65535}, {2, 255}, {2, 65535}, {2, Integer.MAX_VALUE}};
        for (int[] row : otherwise) {
            boolean isNone = row[0] == 1 && row[1] == 65535;
            E.due("cell: of sort " + row[0] + ": " + row[1], ask(Scene.NEW, x -> {
                x.heir(0, 0);
                x.heir(0, 0);
                Check.sheet(x, 0, row[0], 1, row[1]);
            }, x -> x.rows(0, 0, 1, 0)), isNone ? NumbersInherited.NONE : 0);
        }
    }

    // ---- 27: copy

    private static void copyBad() {
        for (int n : new int[] {1, 0, -1, 41}) {
            E.changesNothing("copy: no SHEET", Scene.FAMILY, NO_SHEET, (x, v) -> x.copy(v, 0, 1, 0, n), BAD);
            E.changesNothing("copy: no other one", Scene.FAMILY, NO_SHEET, (x, v) -> x.copy(1, 0, v, 0, n), BAD);
            E.changesNothing("copy: no SHEET, the other one missing", Scene.FAMILY, NO_SHEET,
                (x, v) -> x.copy(v, 0, 3, 0, n), BAD);
            E.changesNothing("copy: missing, no other one", Scene.FAMILY, NO_SHEET, (x, v) -> x.copy(3, 0, v, 0, n),
                BAD);
            for (int sheet = 0; sheet < 4; sheet++) {
                int h = sheet;
                E.changesNothing("copy: the other one missing", Scene.FAMILY, x -> x.copy(h, 0, 3, 0, n), NOTHING);
                E.changesNothing("copy: missing", Scene.FAMILY, x -> x.copy(3, 0, h, 0, n), NOTHING);
                for (int other = 0; other < 3; other++) {
                    int o = other;
                    if (sheet < 3 && other != sheet) {
                        E.changesNothing("copy: of unlike sorts", Scene.FAMILY, x -> x.copy(h, 0, o, 0, n), UNLIKE);
                    }
                }
            }
        }
    }

    /** A SHEET 3 of 4 shorts beside SHEET 1 of 6. */
    private static final Setting FOUR = x -> Check.sheet(x, 3, 1, 6, 7, 8, 9);

    private static void copyPlaces() {
        // i, j, n: from 6 items to 4.
        int[][] inside = {{0, 0, 4}, {2, 0, 4}, {5, 3, 1}, {0, 3, 1}, {5, 0, 1}, {6, 4, 0}, {6, 0, 0}, {0, 4, 0}, {0, 0, 0},
            {3, 1, 3}};
        int[][] outside = {{-1, 0, 1}, {0, -1, 1}, {6, 0, 1}, {0, 4, 1}, {3, 0, 4}, {0, 0, 5}, {0, 1, 4}, {7, 0, 0}, {0, 5, 0},
            {-1, 0, 0}, {0, -1, 0}, {0, 0, -1}, {0, 0, Integer.MIN_VALUE}, {0, 0, Integer.MAX_VALUE}, {1, 1, -1},
            {Integer.MAX_VALUE, 0, 1}, {0, Integer.MAX_VALUE, 1}, {Integer.MIN_VALUE, 0, 1}, {0, Integer.MIN_VALUE, 1},
            {1, 0, Integer.MAX_VALUE}, {0, 1, Integer.MAX_VALUE}, {Integer.MAX_VALUE, 0, Integer.MAX_VALUE},
            {6, 4, -1}};
        for (int[] c : inside) {
            E.due("copy: inside: " + c[0] + ", " + c[1] + ", " + c[2],
                ask(Scene.FAMILY, FOUR, x -> x.copy(1, c[0], 3, c[1], c[2])), c[2]);
        }
        for (int[] c : outside) {
            E.changesNothing("copy: outside: " + c[0] + ", " + c[1] + ", " + c[2], Scene.FAMILY, FOUR,
                x -> x.copy(1, c[0], 3, c[1], c[2]), OUTSIDE);
        }
        E.due("copy: all of 40", ask(Scene.FULL, x -> x.sheet(3, 2, 40), x -> x.copy(2, 0, 3, 0, 40)), 40);
        E.changesNothing("copy: 41", Scene.FULL, x -> x.sheet(3, 2, 40), x -> x.copy(2, 0, 3, 0, 41), OUTSIDE);
        E.changesNothing("copy: 40 from 1 on", Scene.FULL, x -> x.sheet(3, 2, 40), x -> x.copy(2, 1, 3, 0, 40), OUTSIDE);
        E.changesNothing("copy: none between two of none", Scene.FAMILY, x -> {
            x.sheet(1, 1, 0);
            x.sheet(3, 1, 0);
        }, x -> x.copy(1, 0, 3, 0, 0), 0);
    }

    private static void copyWithinOne() {
        // As they were, also where both lie over each other: 0 1 5 9 2 4.
        int[][] made = {{0, 1, 5, 0, 0, 1, 5, 9, 2}, {1, 0, 5, 1, 5, 9, 2, 4, 4}, {0, 0, 6, 0, 1, 5, 9, 2, 4},
            {0, 3, 3, 0, 1, 5, 0, 1, 5}, {3, 0, 3, 9, 2, 4, 9, 2, 4}, {1, 2, 3, 0, 1, 1, 5, 9, 4}};
        for (int[] m : made) {
            for (int i = 0; i < 6; i++) {
                int at = i;
                E.due("copy: within one: item " + i, ask(Scene.FAMILY, x -> x.copy(1, m[0], 1, m[1], m[2]),
                    x -> item(x, 1, 1, at)), m[3 + i]);
            }
        }
        E.answered("copy: within one: how many", Scene.FAMILY, x -> x.copy(1, 0, 1, 1, 5), 5);
        E.changesNothing("copy: within one: outside", Scene.FAMILY, x -> x.copy(1, 0, 1, 1, 6), OUTSIDE);
    }

    private static void copyItems() {
        int[][] made = {{2, 1, 2, 6, 5, 9, 9}, {0, 0, 4, 0, 1, 5, 9}, {5, 3, 1, 6, 7, 8, 4}, {4, 0, 0, 6, 7, 8, 9}};
        int[] from = {0, 1, 5, 9, 2, 4};
        for (int[] m : made) {
            for (int i = 0; i < 6; i++) {
                int at = i;
                Setting copied = x -> {
                    FOUR.of(x);
                    x.copy(1, m[0], 3, m[1], m[2]);
                };
                E.due("copy: the one stays: item " + i, ask(Scene.FAMILY, copied, x -> {
                    x.sheet(2, 1, 4);
                    return x.copy(3, 0, 2, 0, 4) == 4 ? itemOfFour(x, 1, at) : -1;
                }), from[i]);
                if (i < 4) {
                    E.due("copy: the other one's item " + i, ask(Scene.FAMILY, copied, x -> itemOfFour(x, 3, at)), m[3 + i]);
                }
            }
        }
    }

    // By SHEET 0, which is of bytes else.
    private static long itemOfFour(Counted x, int sheet, int i) {
        x.sheet(0, 1, 2);
        x.copy(sheet, i, 0, 1, 1);
        return x.heirs(0, 1, 0, 1) == 1 ? x.told(3, 1) : -1;
    }

    // ---- 28: heirs

    private static void heirsBad() {
        for (int n : new int[] {0, 1, 6}) {
            E.changesNothing("heirs: no SHEET", Scene.FAMILY, NO_SHEET, (x, v) -> x.heirs(v, 1, 0, n), BAD);
            for (int sheet = 0; sheet < 4; sheet++) {
                int h = sheet;
                int[] no = {-1, 3, Integer.MIN_VALUE, Integer.MAX_VALUE};
                E.changesNothing("heirs: no sort", Scene.FAMILY, no, (x, v) -> x.heirs(h, v, 0, n), BAD);
                for (int sort = 0; sort < 3; sort++) {
                    int s = sort;
                    if (sheet < 3 && sort != sheet) {
                        E.changesNothing("heirs: of another sort", Scene.FAMILY, x -> x.heirs(h, s, 0, n), UNLIKE);
                        E.changesNothing("heirs: of another sort, ahead of -12", Scene.FAMILY, x -> x.heirs(h, s, 9, n),
                            UNLIKE);
                    }
                }
            }
            for (int sort = 0; sort < 3; sort++) {
                int s = sort;
                E.changesNothing("heirs: missing", Scene.FAMILY, x -> x.heirs(3, s, 0, n), NOTHING);
                E.changesNothing("heirs: missing, ahead of -12", Scene.FAMILY, x -> x.heirs(3, s, -1, n), NOTHING);
            }
        }
        int[] no = {-1, 7, Integer.MIN_VALUE, Integer.MAX_VALUE};
        E.changesNothing("heirs: n 0 .. 6", Scene.FAMILY, no, (x, v) -> x.heirs(1, 1, 0, v), BAD);
        E.changesNothing("heirs: n 0 .. 6, ahead of -13", Scene.FAMILY, no, (x, v) -> x.heirs(1, 2, 0, v), BAD);
        E.changesNothing("heirs: n 0 .. 6, ahead of -11", Scene.FAMILY, no, (x, v) -> x.heirs(3, 2, 0, v), BAD);
    }

    private static void heirsPlaces() {
        int[] no = {-1, -2, 5, 6, 7, Integer.MIN_VALUE, Integer.MAX_VALUE, Integer.MAX_VALUE - 1};
        for (int sheet = 0; sheet < 3; sheet++) {
            int h = sheet;
            E.changesNothing("heirs: the first is outside", Scene.FAMILY, no, (x, v) -> x.heirs(h, h, v, 1), OUTSIDE);
            E.answered("heirs: the last two items", Scene.FAMILY, x -> x.heirs(h, h, 4, 1), 1);
            E.answered("heirs: of its sort", Scene.FAMILY, x -> x.heirs(h, h, 0, 1), 1);
        }
        for (int from : new int[] {0, 4, 6, 7, -1, Integer.MAX_VALUE}) {
            E.changesNothing("heirs: none asks for no place", Scene.FAMILY, x -> x.heirs(1, 1, from, 0), 0);
        }
        E.changesNothing("heirs: of none", Scene.FAMILY, x -> x.sheet(1, 1, 0), x -> x.heirs(1, 1, 0, 1), OUTSIDE);
        // What stood ahead came: of 0 1, 5 9, 2 4 three, and a fourth is outside.
        E.answered("heirs: all three", Scene.FAMILY, x -> x.heirs(1, 1, 0, 3), 3);
        E.answered("heirs: a fourth is outside", Scene.FAMILY, x -> x.heirs(1, 1, 0, 4), OUTSIDE);
        E.due("heirs: what stood ahead came", ask(Scene.FAMILY, x -> x.heirs(1, 1, 0, 4), x -> x.count(0)), 6);
        E.answered("heirs: half of a third", Scene.FAMILY, x -> x.heirs(1, 1, 1, 3), OUTSIDE);
        E.due("heirs: half of a third: one came", ask(Scene.FAMILY, x -> x.heirs(1, 1, 1, 3), x -> x.count(0)), 4);
        E.due("heirs: its KIND, MORE", ask(Scene.FAMILY, x -> x.heirs(1, 1, 1, 3), x -> 10 * x.told(3, 3) + x.told(3, 1)), 15);
        E.answered("heirs: up to 40", Scene.FULL, x -> {
            x.back();
            return x.heirs(2, 2, 38, 1);
        }, 1);
        E.answered("heirs: behind 40", Scene.FULL, x -> {
            x.back();
            return x.heirs(2, 2, 39, 1);
        }, OUTSIDE);
    }

    private static void heirsMany() {
        Setting six = x -> Check.sheet(x, 0, 1, 0, 4, 1, 5, 2, 6, 3, 7, 4, 8, 5, 9);
        for (int n = 0; n <= 6; n++) {
            int many = n;
            E.due("heirs: n 0 .. 6", ask(Scene.NEW, six, x -> x.heirs(0, 1, 0, many)), n);
            E.due("heirs: no more came", ask(Scene.NEW, six, x -> {
                x.heirs(0, 1, 0, many);
                return x.count(0);
            }), n);
        }
        for (int heir = 0; heir < 6; heir++) {
            int h = heir;
            E.due("heirs: two by two: KIND and MORE", ask(Scene.NEW, six, x -> {
                x.heirs(0, 1, 0, 6);
                return 10 * x.told(h, 3) + x.told(h, 1);
            }), 11 * heir + 4);
            E.due("heirs: none OWN", ask(Scene.NEW, six, x -> {
                x.heirs(0, 1, 0, 6);
                return x.told(h, 2);
            }), 0);
        }
    }

    private static void heirsLeftOut() {
        int[][] asked = {{0, 0, 1}, {5, 9, 1}, {-1, 0, 0}, {6, 0, 0}, {0, -1, 0}, {0, 10, 0}, {6, 10, 0}};
        for (int sort = 0; sort < 3; sort++) {
            int s = sort;
            for (int[] ask : asked) {
                Setting laid = x -> Check.sheet(x, 0, s, ask[0], ask[1]);
                E.due("heirs: as of heir(): " + ask[0] + ", " + ask[1],
                    ask(Scene.NEW, laid, x -> x.heirs(0, s, 0, 1)), ask[2]);
                E.due("heirs: others are left out: " + ask[0] + ", " + ask[1],
                    ask(Scene.NEW, laid, x -> 10 * x.heirs(0, s, 0, 1) + x.count(0)), 11 * ask[2]);
            }
        }
        Setting mixed = x -> Check.sheet(x, 0, 2, 6, 0, 1, 3, 0, 10, 2, 4, -1, -1);
        E.due("heirs: how many came", ask(Scene.NEW, mixed, x -> x.heirs(0, 2, 0, 5)), 2);
        E.due("heirs: the first that came", ask(Scene.NEW, mixed, x -> 100 * x.heirs(0, 2, 0, 5) + 10 * x.told(0, 3)
            + x.told(0, 1)), 213);
        E.due("heirs: the next that came", ask(Scene.NEW, mixed, x -> 100 * x.heirs(0, 2, 0, 5) + 10 * x.told(1, 3)
            + x.told(1, 1)), 224);
        E.due("heirs: -12 behind some that were left out", ask(Scene.NEW, mixed, x -> x.heirs(0, 2, 6, 3)), OUTSIDE);
        E.changesNothing("heirs: no room: left out", Scene.FULL, x -> x.heirs(1, 1, 0, 6), 0);
        E.changesNothing("heirs: no room: left out, and then outside", Scene.FULL, x -> x.heirs(1, 1, 38, 2), OUTSIDE);
        E.due("heirs: room for three", ask(Scene.FAMILY, x -> x.sheet(0, 0, 40), x -> x.heirs(0, 0, 0, 6)), 3);
    }

    // ---- 29: taken

    private static void taken() {
        int[] isTaken = {0b000001, 0b000011, 0b000101, 0b001011, 0b010101, 0b100001};
        for (int heir = 0; heir < 6; heir++) {
            for (int kind = 0; kind < 6; kind++) {
                int h = heir;
                int k = kind;
                E.changesNothing("taken: one of KIND " + heir + " for one of KIND " + kind, Scene.FULL, x -> x.taken(h, k),
                    (isTaken[heir] >> kind & 1) == 1 ? heir + 1 : UNLIKE);
            }
        }
        E.changesNothing("taken: no KIND", Scene.FAMILY, NO_KIND, (x, v) -> x.taken(0, v), BAD);
        E.changesNothing("taken: no KIND, ahead of -11", Scene.NEW, NO_KIND, (x, v) -> x.taken(0, v), BAD);
        E.changesNothing("taken: no HEIR", Scene.FAMILY, NO_HEIR, (x, v) -> x.taken(v, 0), NOTHING);
        E.changesNothing("taken: no HEIR, ahead of -13", Scene.FAMILY, NO_HEIR, (x, v) -> x.taken(v, 5), NOTHING);
        E.changesNothing("taken: nobody", Scene.NEW, x -> x.taken(0, 0), NOTHING);
        E.changesNothing("taken: no seventh", Scene.FULL, x -> x.taken(6, 0), NOTHING);
        for (int more : new int[] {0, 9}) {
            E.changesNothing("taken: its MORE", Scene.NEW, x -> x.heir(3, more), x -> x.taken(0, 1), more);
        }
        E.answered("taken: its MORE as it is now", Scene.FAMILY, x -> {
            x.set(1, 0, 8);
            return x.taken(0, 0);
        }, 8);
        E.answered("taken: one who went", Scene.FULL, x -> {
            x.back();
            return x.taken(2, 0);
        }, NOTHING);
    }
}
