/** Promises 18 to 24: rows, film, drawn, chance, image, back, count. */
public final class ToldTest {
    private static final Check CHECK = new Check();
    private static final int ALL = (1 << 30) - 1;

    public static void main(String[] args) {
        rows();
        rowsByText();
        rowsOfSorts();
        rowsRefused();
        film();
        drawn();
        chance();
        imageAndBack();
        count();
        CHECK.close();
    }

    private static void rows() {
        Counted x = new Counted();
        Check.heir(x, 0, 4, 3, 5);
        Check.heir(x, 0, 0, 3, 5, 6, 8, 14);
        Check.sheet(x, 0, 2, 3, 2, 7, -1, 10, 4, 0, 0);
        CHECK.due("all are so", x.rows(0, 0, 1, 0), -1);
        // A CLERK says 6 and 8 as well, which nobody told of, and at what an HEIR's cost; all others cost more.
        CHECK.due("KINDS", x.rows(0, 0, 1, 1), 1 | 8);
        CHECK.due("MORES", x.rows(0, 0, 1, 2), 1023);
        CHECK.due("TEXTS", x.rows(0, 0, 1, 3), 1);
        CHECK.due("MUST", x.rows(0, 0, 1, 4), Check.bits(3, 5));
        CHECK.due("MAY", x.rows(0, 0, 1, 5), ALL & ~Check.bits(3, 5));
        x.cell(0, 5, 3);
        CHECK.due("the third row is otherwise", x.rows(0, 0, 1, 0), 2);
        CHECK.due("no KINDS", x.rows(0, 0, 1, 1), 0);
        CHECK.due("no MORES", x.rows(0, 0, 1, 2), 0);
        CHECK.due("no TEXTS", x.rows(0, 0, 1, 3), 0);
        CHECK.due("MUST: without any it isn't so either", x.rows(0, 0, 1, 4), Check.bits(3, 5));
        CHECK.due("no MAY", x.rows(0, 0, 1, 5), 0);
        x.cell(0, 1, -1);
        CHECK.due("the first row is otherwise", x.rows(0, 0, 1, 0), 0);
        // 8 and 14 can't be MAY, were 8 or 14 told as two PARTS or none.
        Check.sheet(x, 1, 1, 8, 4, 14, 8, 1, -1);
        CHECK.due("8 is 5 and 3", x.rows(1, 0, 1, 0), -1);
        CHECK.due("MAY of 8", x.rows(1, 0, 1, 5), ALL & ~Check.bits(3, 5, 6, 8, 14));
        // MORE of a TWIN: 4 makes 4, 5 of 5 makes nothing more.
        Counted y = new Counted();
        Check.heir(y, 4, 4, 30);
        Check.heir(y, 0, 0, 4, 8, 15);
        Check.sheet(y, 0, 0, 4, 6);
        CHECK.due("TWIN says 4", y.rows(0, 0, 1, 0), -1);
        CHECK.due("MORES of a TWIN", y.rows(0, 0, 1, 2), 1 << 4);
        CHECK.due("KINDS of it", y.rows(0, 0, 1, 1), 1 << 4);
        CHECK.due("MUST have none", y.rows(0, 0, 1, 4), 0);
        CHECK.due("MAY have any other", y.rows(0, 0, 1, 5), ALL & ~Check.bits(30));
        CHECK.due("nothing has changed", y.told(0, 1) * 10 + y.told(0, 3), 44);
        // All that is told of MANY with MORE up to 5.
        Counted z = new Counted();
        Check.heir(z, 5, 2);
        Check.heir(z, 0, 0, 26);
        Check.sheet(z, 0, 1, 26, 3, 52, 6);
        CHECK.due("MANY", z.rows(0, 0, 1, 0), -1);
        CHECK.due("MORES of MANY", z.rows(0, 0, 1, 2), 63);
        CHECK.due("KINDS", z.rows(0, 0, 1, 1), 32);
        // 30 and 1 are OWN as others are.
        Counted w = new Counted();
        Check.heir(w, 0, 0, 1, 30);
        Check.heir(w, 0, 0, 1, 30);
        Check.sheet(w, 0, 2, 30, 2, 31, 4);
        CHECK.due("MUST have 1 and 30", w.rows(0, 0, 1, 4), Check.bits(1, 30));
        w.set(2, 0, 0);
        Check.sheet(w, 0, 2, 30, 2, 60, 4, 1, -1);
        CHECK.due("MAY have 30", w.rows(0, 0, 1, 5), Check.bits(30));
        Check.sheet(w, 0, 2, 5, 10);
        CHECK.due("MAY have 1", w.rows(0, 0, 1, 5), Check.bits(1));
        // No rows: all are so.
        z.sheet(1, 0, 0);
        CHECK.due("no rows", z.rows(1, 0, 1, 0), -1);
        CHECK.due("no rows: KINDS", z.rows(1, 0, 1, 1), 63);
        CHECK.due("no rows: MORES", z.rows(1, 0, 1, 2), 1023);
        CHECK.due("no rows: MUST", z.rows(1, 1, 0, 4), 0);
        CHECK.due("no rows: MAY", z.rows(1, 1, 0, 5), ALL & ~Check.bits(26));
    }

    private static void rowsByText() {
        Counted x = new Counted();
        Check.heir(x, 1, 0, 3);
        Check.heir(x, 0, 0, 3, 6);
        Check.text(x, "says n;meant 1;worth 1;");
        Check.text(x, "says own+many;meant 1;worth 1;");
        Check.text(x, "says 3;meant 0;worth 0;");
        // By TEXT 1, 3 costs 7 together, 6 costs 13; by TEXT 2, 3 costs 6, 6 costs 5; by TEXT 3, 7 both.
        Check.sheet(x, 0, 1, 3, 7);
        CHECK.due("by THE RULE", x.rows(0, 0, 1, 0), 0);
        CHECK.due("TEXTS 1 and 3", x.rows(0, 0, 1, 3), 2 | 8);
        CHECK.due("THE RULE stays", x.count(3), 0);
        x.force(3);
        CHECK.due("by TEXT 3", x.rows(0, 0, 1, 0), -1);
        CHECK.due("TEXTS the same", x.rows(0, 0, 1, 3), 2 | 8);
        CHECK.due("THE RULE stays", x.count(3), 3);
        Check.sheet(x, 0, 1, 6, 5);
        CHECK.due("TEXT 2", x.rows(0, 0, 1, 3), 4);
        // own and many are those that it would have: 6 costs 3 then to the one who has 6, and 3 to the other.
        x.force(2);
        CHECK.due("by TEXT 2", x.rows(0, 0, 1, 0), -1);
        CHECK.due("MAY by TEXT 2", x.rows(0, 0, 1, 5), 0);
    }

    private static void rowsOfSorts() {
        Counted x = new Counted();
        Check.heir(x, 5, 0, 1);
        Check.heir(x, 5, 0, 1);
        Check.text(x, "says 99;meant 1;worth 1;");
        x.force(1);
        // A byte is a byte of the host: 1 is told as 396, which a byte can't hold.
        Check.sheet(x, 0, 0, 1, 396);
        CHECK.due("bytes", x.rows(0, 0, 1, 0), 0);
        Check.sheet(x, 0, 1, 1, 396);
        CHECK.due("shorts", x.rows(0, 0, 1, 0), -1);
        Check.sheet(x, 0, 2, 1, 396);
        CHECK.due("ints", x.rows(0, 0, 1, 0), -1);
        Check.sheet(x, 0, 2, 1, 396 + 65536);
        CHECK.due("ints are whole", x.rows(0, 0, 1, 0), 0);
        Check.sheet(x, 0, 1, 1, 396 + 65536);
        CHECK.due("shorts keep 16 bits", x.rows(0, 0, 1, 0), -1);
        x.set(2, 0, 0);
        Check.sheet(x, 0, 0, 1, 255);
        CHECK.due("a byte of 8 ones is NONE", x.rows(0, 0, 1, 0), -1);
        Check.sheet(x, 0, 0, 257, -1);
        CHECK.due("a byte keeps 8 bits", x.rows(0, 0, 1, 0), -1);
        Check.sheet(x, 0, 2, 1, -2);
        CHECK.due("only NONE is NONE", x.rows(0, 0, 1, 0), 0);
    }

    private static void rowsRefused() {
        Counted x = new Counted();
        x.heir(0, 0);
        x.heir(0, 0);
        Check.sheet(x, 0, 2, 1, -1, 2);
        Check.sheet(x, 1, 2, 1, -1, 100, 0);
        Check.sheet(x, 2, 2, -1, -1);
        CHECK.due("SHEET too great", x.rows(4, 0, 1, 0), -2);
        CHECK.due("SHEET below 0", x.rows(-1, 0, 1, 0), -2);
        CHECK.due("missing", x.rows(3, 0, 1, 0), -11);
        CHECK.due("missing, no such one", x.rows(3, 2, 1, 0), -2);
        CHECK.due("missing, no such other", x.rows(3, 0, -1, 0), -2);
        CHECK.due("missing, one and the same", x.rows(3, 1, 1, 0), -2);
        CHECK.due("missing, no such what", x.rows(3, 0, 1, 6), -2);
        CHECK.due("missing, what below 0", x.rows(3, 0, 1, -1), -2);
        for (int what = 0; what < 6; what++) {
            CHECK.due("not by twos", x.rows(0, 0, 1, what), -2);
            CHECK.due("no such SUM behind others", x.rows(1, 0, 1, what), -2);
            CHECK.due("SUM below 0", x.rows(2, 0, 1, what), -2);
        }
    }

    private static void film() {
        Counted x = new Counted();
        Check.heir(x, 0, 0, 3, 5);
        Check.heir(x, 0, 0, 3, 5);
        CHECK.due("20 rows", x.film(0, 1, 0, 20), 20);
        CHECK.due("of 40 items", x.cell(0, 40, 0), -12);
        CHECK.due("all are so", x.rows(0, 0, 1, 0), -1);
        CHECK.due("shorts", x.heirs(0, 1, 0, 0), 0);
        CHECK.due("from the other one", x.film(1, 10, 97, 20), 3);
        CHECK.due("of 6 items", x.cell(1, 6, 0), -12);
        CHECK.due("all are so", x.rows(1, 1, 0, 0), -1);
        // Row by row: SUM 97 is 5 .. 5 3 3 3 3, 21 PARTS.
        Check.sheet(x, 2, 1, 97, 42, 98, 40, 99, 42);
        CHECK.due("as told by hand", x.rows(2, 0, 1, 0), -1);
        x.cell(1, 5, 43);
        CHECK.due("truly: the third is otherwise then", x.rows(1, 1, 0, 0), 2);
        CHECK.due("none", x.film(1, 1, 0, 0), 0);
        CHECK.due("of no items", x.cell(1, 0, 0), -12);
        CHECK.due("one", x.film(3, 1, 99, 1), 1);
        x.set(2, 0, 0);
        x.film(3, 1, 6, 1);
        CHECK.due("NONE", x.rows(3, 0, 1, 0), -1);
        x.set(2, 0, Check.bits(3));
        CHECK.due("NONE is otherwise then", x.rows(3, 0, 1, 0), 0);
        CHECK.due("SHEET too great", x.film(4, 1, 0, 1), -2);
        CHECK.due("SHEET below 0", x.film(-1, 1, 0, 1), -2);
        CHECK.due("one and the same", x.film(3, 0, 0, 1), -2);
        CHECK.due("one and the same", x.film(3, 11, 0, 1), -2);
        CHECK.due("no such other", x.film(3, 2, 0, 1), -2);
        CHECK.due("no such one", x.film(3, 20, 0, 1), -2);
        CHECK.due("ab below 0", x.film(3, -1, 0, 1), -2);
        CHECK.due("ab below 0", x.film(3, -10, 0, 1), -2);
        CHECK.due("ab of three digits", x.film(3, 101, 0, 1), -2);
        CHECK.due("SUM below 0", x.film(3, 1, -1, 1), -2);
        CHECK.due("SUM 100", x.film(3, 1, 100, 1), -2);
        CHECK.due("n below 0", x.film(3, 1, 0, -1), -2);
        CHECK.due("n 21", x.film(3, 1, 0, 21), -2);
        CHECK.due("refusals change nothing", x.rows(3, 0, 1, 0), 0);
    }

    private static void drawn() {
        Counted x = new Counted();
        CHECK.due("no HEIRS", x.drawn(1), -3);
        x.heir(0, 0);
        CHECK.due("one HEIR", x.drawn(1), -3);
        x.heir(0, 0);
        for (int seed = -40; seed < 40; seed++) {
            Counted y = new Counted();
            y.heir(0, 0);
            y.heir(0, 0);
            int next = setDrawn(y, 0, seed * 77777777);
            setDrawn(y, 1, next);
            CHECK.due("drawn " + seed, x.drawn(seed * 77777777), 99 - y.barred(0, 1, 0));
        }
        CHECK.due("nothing has changed", x.count(4), 0);
        // Each as it is: a CLERK pays one of MANY, whose MORE lets him say more.
        Counted w = new Counted();
        w.heir(3, 0);
        w.heir(5, 0);
        for (int seed = 0; seed < 20; seed++) {
            int next = setDrawn(w, 0, seed);
            setDrawn(w, 1, next);
            CHECK.due("drawn by a CLERK, MANY " + seed, w.drawn(seed), 99 - w.barred(0, 1, 0));
        }
        Check.text(x, "says 1;meant 0;worth 0;");
        int before = x.drawn(3);
        x.force(1);
        CHECK.due("meant or not", x.drawn(3), before);
    }

    /** The SEED of the next one. */
    private static int setDrawn(Counted x, int heir, int seed) {
        int z = seed * 1103515245 + 12345;
        int y = z * 1103515245 + 12345;
        x.set(2, heir, ((y >>> 9) & 1023) << 10 | (z >>> 9) & 1023);
        return y;
    }

    private static void chance() {
        Counted x = new Counted();
        CHECK.due("no HEIRS", x.chance(0, 1, 0), NumbersInherited.NO);
        x.heir(0, 0);
        CHECK.due("one HEIR", x.chance(0, 1, 0), NumbersInherited.NO);
        Check.heir(x, 0, 0, 4, 9);
        x.set(2, 0, Check.bits(4, 9));
        int now = 99 - x.barred(0, 1, 0);
        boolean shortened = false;
        for (int n = 1; n <= 20; n++) {
            int seed = Integer.MAX_VALUE - 3;
            int above = 0;
            for (int i = 0; i < n; i++) {
                above += x.drawn(seed + i) > now ? 1 : 0;
            }
            long up = x.chance(seed, n, 0);
            long down = x.chance(seed, n, 1);
            CHECK.due("chance in " + n, up * n, down * above);
            CHECK.isSo("lowest terms of " + n, lowest(up, down));
            shortened |= down < n && above > 0;
        }
        CHECK.isSo("some were not in lowest terms", shortened);
        // All that the second could pay one of its own is more than any drawing.
        x.set(2, 0, Check.bits(30));
        x.set(2, 1, Check.bits(1, 30));
        CHECK.due("always: above", x.chance(5, 12, 0), 1);
        CHECK.due("always: below", x.chance(5, 12, 1), 1);
        x.set(2, 0, 1);
        x.set(2, 1, 1);
        CHECK.due("never, in one", x.chance(5, 1, 0), 0);
        CHECK.due("never, in one", x.chance(5, 1, 1), 1);
        CHECK.due("never: above", x.chance(5, 12, 0), 0);
        CHECK.due("never: below", x.chance(5, 12, 1), 1);
        CHECK.due("n 0", x.chance(0, 0, 0), NumbersInherited.NO);
        CHECK.due("n 21", x.chance(0, 21, 0), NumbersInherited.NO);
        CHECK.due("n below 0", x.chance(0, -1, 0), NumbersInherited.NO);
        CHECK.due("no such part", x.chance(0, 1, 2), NumbersInherited.NO);
        CHECK.due("part below 0", x.chance(0, 1, -1), NumbersInherited.NO);
    }

    private static boolean lowest(long up, long down) {
        for (long d = 2; d <= down; d++) {
            if (up % d == 0 && down % d == 0) {
                return false;
            }
        }
        return true;
    }

    private static void imageAndBack() {
        Counted x = new Counted();
        CHECK.due("no IMAGE", x.back(), -3);
        CHECK.due("IMAGE of none", x.image(), 0);
        x.heir(0, 0);
        CHECK.due("back to none", x.back(), 0);
        CHECK.due("none", x.count(0), 0);
        Check.heir(x, 1, 4, 3, 7);
        Check.heir(x, 2, 5, 8);
        Check.text(x, "says 2;meant 1;worth 1;");
        x.set(0, 0, 31);
        x.force(1);
        CHECK.due("IMAGE of two", x.image(), 2);
        for (int again = 0; again < 2; again++) {
            Check.heir(x, 3, 6, 9);
            x.set(0, 0, 77);
            x.set(1, 0, 0);
            x.set(1, 1, 0);
            x.set(2, 0, 0);
            x.give(1, 0, 8);
            x.force(0);
            Check.text(x, "says 3;meant 1;worth 1;");
            Check.sheet(x, 0, 2, 5);
            x.feed(32);
            CHECK.due("back", x.back(), 2);
            CHECK.due("HEIRS", x.count(0), 2);
            CHECK.due("THE DAY", x.told(0, 0), 31);
            CHECK.due("MORE of 0", x.told(0, 1), 4);
            CHECK.due("MORE of 1", x.told(1, 1), 5);
            CHECK.due("OWN of 0", x.told(0, 2), Check.bits(3, 7));
            CHECK.due("OWN of 1", x.told(1, 2), Check.bits(8));
            CHECK.due("KIND of 0", x.told(0, 3), 1);
            CHECK.due("THE RULE", x.count(3), 1);
            CHECK.due("TEXTS stay", x.count(1), 3 + again);
            CHECK.due("THE TAPE stays", x.count(2), 1);
            CHECK.due("SHEETS stay", x.cell(0, 0, 5), 1);
            x.text();
        }
        x.heir(0, 0);
        CHECK.due("another IMAGE", x.image(), 3);
        x.heir(0, 0);
        CHECK.due("back to it", x.back(), 3);
    }

    private static void count() {
        Counted x = new Counted();
        Check.heir(x, 0, 0, 1, 2, 3);
        Check.heir(x, 0, 0, 3, 4);
        CHECK.due("HEIRS", x.count(0), 2);
        CHECK.due("TEXTS", x.count(1), 1);
        Check.feed(x, "abc");
        CHECK.due("bytes of THE TAPE", x.count(2), 3);
        CHECK.due("THE RULE", x.count(3), 0);
        CHECK.due("OWN of all, together", x.count(4), 5);
        CHECK.due("no such", x.count(5), -2);
        CHECK.due("below 0", x.count(-1), -2);
    }
}
