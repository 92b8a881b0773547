/** Promises 9 to 14: says, common, pays, barred, silent, middle. */
public final class SayingTest {
    private static final Check CHECK = new Check();

    public static void main(String[] args) {
        sayable();
        costs();
        says();
        common();
        pays();
        through();
        steps();
        barred();
        silent();
        middle();
        CHECK.close();
    }

    private static void sayable(int kind, int more, int[] own, int want) {
        Counted x = new Counted();
        Check.heir(x, kind, more, own);
        CHECK.due("KIND " + kind + " can say", x.told(0, 5), want);
        for (int n = 1; n <= 30; n++) {
            CHECK.due("KIND " + kind + " says " + n, x.says(0, n, 0), want >> (n - 1) & 1);
        }
    }

    private static void sayable() {
        sayable(0, 9, new int[] {1, 30}, Check.bits(1, 30));
        sayable(1, 9, new int[] {1, 15, 16}, Check.bits(1, 2, 15, 16, 17, 30));
        sayable(2, 9, new int[] {2}, Check.bits(1, 2));
        sayable(2, 9, new int[] {1, 7, 12, 30}, Check.bits(1, 6, 7, 12, 15, 30));
        sayable(3, 9, new int[] {1, 15, 16}, Check.bits(1, 2, 14, 15, 16, 17, 30));
        sayable(4, 9, new int[] {12, 24}, Check.bits(6, 9, 12, 24));
        sayable(4, 0, new int[] {12}, Check.bits(6, 12));
        sayable(4, 1, new int[] {}, Check.bits(1));
        sayable(5, 9, new int[] {1}, Check.bits(1, 30));
        sayable(5, 0, new int[] {}, Check.bits(21, 22, 23, 24, 25, 26, 27, 28, 29, 30));
        sayable(3, 0, new int[] {}, 0);
    }

    private static void costs(int v, int... want) {
        Counted x = new Counted();
        Check.text(x, "says " + v + ";meant 1;worth 1;");
        x.force(1);
        for (int kind = 0; kind < 6; kind++) {
            x.heir(kind, 5);
            CHECK.due("COSTS of KIND " + kind + " by " + v, x.says(kind, 30, 1), want[kind]);
        }
    }

    private static void costs() {
        costs(0, 1, 1, 5, 1, 5, 1);
        costs(1, 1, 2, 6, 1, 6, 2);
        costs(2, 2, 3, 7, 1, 7, 4);
        costs(3, 3, 4, 8, 2, 8, 6);
        costs(9999, 99, 100, 104, 50, 104, 198);
        Counted x = new Counted();
        x.heir(2, 0);
        Check.text(x, "says 0-5;meant 1;worth 1;");
        x.force(1);
        CHECK.due("COSTS 1 at least", x.says(0, 1, 1), 1);
    }

    private static void says() {
        Counted x = new Counted();
        Check.heir(x, 0, 0, 4);
        CHECK.due("can", x.says(0, 4, 0), 1);
        CHECK.due("can't", x.says(0, 5, 0), 0);
        CHECK.due("COSTS though it can't", x.says(0, 5, 1), 1);
        CHECK.due("meant 0", x.says(0, 0, 2), 1);
        CHECK.due("worth 0", x.says(0, 0, 3), 0);
        CHECK.due("worth 99", x.says(0, 99, 3), 99);
        for (int what = 0; what < 4; what++) {
            CHECK.due("no such HEIR", x.says(1, 1, what), -2);
            CHECK.due("HEIR below 0", x.says(-1, 1, what), -2);
            CHECK.due("n below 0", x.says(0, -1, what), -2);
            CHECK.due("n 100", x.says(0, 100, what), -2);
            CHECK.due("n 0", x.says(0, 0, what) == -2 ? 1 : 0, what < 2 ? 1 : 0);
            CHECK.due("n 31", x.says(0, 31, what) == -2 ? 1 : 0, what < 2 ? 1 : 0);
        }
        CHECK.due("no such what", x.says(0, 1, 4), -2);
        CHECK.due("what below 0", x.says(0, 1, -1), -2);
    }

    private static void common() {
        Counted x = new Counted();
        Check.heir(x, 1, 0, 3, 4);
        Check.heir(x, 2, 0, 12, 14, 4);
        CHECK.due("COMMON", x.common(0, 1), Check.bits(4, 6, 7));
        CHECK.due("COMMON from there", x.common(1, 0), Check.bits(4, 6, 7));
        CHECK.due("one and the same", x.common(1, 1), -2);
        CHECK.due("no such", x.common(0, 2), -2);
        CHECK.due("no such", x.common(-1, 0), -2);
    }

    private static void pays() {
        Counted x = new Counted();
        Check.heir(x, 0, 0, 3, 5, 10);
        Check.heir(x, 5, 0, 3, 5, 10);
        // 3 costs 1, 5 costs 2, 10 costs 20: three times what it is for the two of them.
        Check.text(x, "says (n=3)+(n=5)*2+(n=10)*20;meant 1;worth n;");
        x.force(1);
        CHECK.due("nothing", x.pays(0, 1, 0, 0), 0);
        CHECK.due("nothing, in none", x.pays(0, 1, 0, 1), 0);
        CHECK.due("1 can't be", x.pays(0, 1, 1, 0), -1);
        CHECK.due("1 can't be", x.pays(0, 1, 1, 1), -1);
        CHECK.due("7 can't be", x.pays(0, 1, 7, 0), -1);
        CHECK.due("3", x.pays(0, 1, 3, 0), 3);
        CHECK.due("10 by 5s", x.pays(0, 1, 10, 0), 12);
        CHECK.due("10 in one, though it costs more", x.pays(0, 1, 10, 1), 1);
        CHECK.due("9 by 3s", x.pays(1, 0, 9, 0), 9);
        CHECK.due("9 by 3s", x.pays(1, 0, 9, 1), 3);
        CHECK.due("15 by 3s", x.pays(0, 1, 15, 0), 15);
        CHECK.due("15 in two", x.pays(0, 1, 15, 1), 2);
        CHECK.due("99 by 3s", x.pays(0, 1, 99, 0), 99);
        CHECK.due("99", x.pays(0, 1, 99, 1), 12);
        for (int what = 0; what < 4; what++) {
            CHECK.due("SUM 100", x.pays(0, 1, 100, what), -2);
            CHECK.due("SUM below 0", x.pays(0, 1, -1, what), -2);
            CHECK.due("one and the same", x.pays(0, 0, 1, what), -2);
            CHECK.due("no such", x.pays(0, 2, 1, what), -2);
            CHECK.due("no such", x.pays(-1, 0, 1, what), -2);
        }
        CHECK.due("no such what", x.pays(0, 1, 1, 4), -2);
        CHECK.due("what below 0", x.pays(0, 1, 1, -1), -2);
        // As dear as can be: 99 PARTS of 1, of 198 to each of two.
        Counted y = new Counted();
        Check.heir(y, 5, 9, 1);
        Check.heir(y, 5, 9, 1);
        Check.text(y, "says 99;meant 1;worth 1;");
        y.force(1);
        CHECK.due("98 in 30s and 1s", y.pays(0, 1, 98, 1), 11);
        CHECK.due("29 in 1s", y.pays(0, 1, 29, 0), 29 * 396);
    }

    private static void through() {
        Counted x = new Counted();
        // HALVING ones say each NUMBER for 10: through 2 it is 11 and 11, at once it is 20.
        Check.heir(x, 2, 9, 10, 6);
        Check.heir(x, 0, 0, 5);
        Check.heir(x, 0, 0, 5, 10);
        Check.heir(x, 2, 9, 10);
        CHECK.due("from 0", x.pays(0, 3, 10, 0), 20);
        CHECK.due("from 0 through none", x.pays(0, 3, 10, 2), 20);
        CHECK.due("in one", x.pays(0, 3, 10, 3), 1);
        CHECK.due("no way to 1 but through 2", x.pays(0, 1, 6, 2), -1);
        CHECK.due("no steps", x.pays(0, 1, 6, 3), -1);

        Counted y = new Counted();
        Check.heir(y, 0, 0, 2, 9);
        Check.heir(y, 0, 0, 9, 4);
        Check.heir(y, 0, 0, 4, 2);
        // 2 and 4 cost 1, 9 costs 40; 36 is 18 twos, 9 fours, 4 nines.
        Check.text(y, "says 1+39*(n=9);meant 1;worth n;");
        y.force(1);
        CHECK.due("0 to 1 by nines", y.pays(0, 1, 36, 0), 320);
        CHECK.due("0 to 1 through 2", y.pays(0, 1, 36, 2), 36 + 18);
        CHECK.due("in two", y.pays(0, 1, 36, 3), 2);
        CHECK.due("1 to 0 through 2", y.pays(1, 0, 36, 2), 54);
        CHECK.due("SUM 0", y.pays(0, 1, 0, 2), 0);
        CHECK.due("SUM 0 in one", y.pays(0, 1, 0, 3), 1);
        CHECK.due("to 0 in two", y.pays(1, 0, 36, 3), 2);
        // Without a price on 9: 4 nines cost 8, and no way is less.
        y.force(0);
        CHECK.due("direct", y.pays(0, 1, 36, 2), 8);
        CHECK.due("direct, in one", y.pays(0, 1, 36, 3), 1);

        // Two ways of the same COSTS, the one in 1, the other in 2.
        Counted z = new Counted();
        Check.heir(z, 0, 0, 6, 12);
        Check.heir(z, 0, 0, 12);
        Check.heir(z, 0, 0, 6, 12);
        CHECK.due("6 times 2", z.pays(0, 2, 12, 2), 2);
        Check.text(z, "says 1+(n=12);meant 1;worth n;");
        z.force(1);
        CHECK.due("12 by the one or by sixes", z.pays(0, 2, 12, 2), 4);
        CHECK.due("in one", z.pays(0, 2, 12, 3), 1);

        // A chain of six: the only way goes through all.
        Counted w = new Counted();
        for (int i = 0; i < 6; i++) {
            Check.heir(w, 0, 0, i + 1, i + 2);
        }
        // HEIR 0 has 1, 2, HEIR 1 2, 3, ..: 60 is 30 twos, 20 threes, 15 fours, 12 fives, 10 sixes.
        CHECK.due("chain", w.pays(0, 5, 60, 2), 2 * (30 + 20 + 15 + 12 + 10));
        CHECK.due("chain's steps", w.pays(0, 5, 60, 3), 5);
        CHECK.due("chain back", w.pays(5, 0, 60, 2), 2 * (30 + 20 + 15 + 12 + 10));
        CHECK.due("no chain of 30 fours", w.pays(0, 5, 30, 2), -1);
        CHECK.due("part of it", w.pays(0, 2, 30, 2), 2 * (15 + 10));

        // Like COSTS, unlike STEPS: 12 is at once dear as through another one.
        Counted v = new Counted();
        Check.heir(v, 0, 0, 12, 6);
        Check.heir(v, 0, 0, 6, 4);
        Check.heir(v, 0, 0, 12, 4);
        Check.text(v, "says (n=12)*5+(n=6)+(n=4);meant 1;worth n;");
        v.force(1);
        CHECK.due("12 direct", v.pays(0, 2, 12, 0), 10);
        CHECK.due("12 through 1", v.pays(0, 2, 12, 2), 10);
        CHECK.due("the fewest of like ones", v.pays(0, 2, 12, 3), 1);
        Check.text(v, "says (n=12)*6+(n=6)+(n=4);meant 1;worth n;");
        v.force(2);
        CHECK.due("12 direct is dearer", v.pays(0, 2, 12, 0), 12);
        CHECK.due("12 through 1", v.pays(0, 2, 12, 2), 10);
        CHECK.due("in two then", v.pays(0, 2, 12, 3), 2);
    }

    /** The way of fewer STEPS leads through later HEIRS than the way of more that COSTS the same. */
    private static void steps() {
        Counted x = new Counted();
        Check.heir(x, 0, 0, 2, 5);
        Check.heir(x, 0, 0, 2, 3);
        Check.heir(x, 0, 0, 3, 4);
        Check.heir(x, 0, 0);
        Check.heir(x, 0, 0, 5, 6);
        Check.heir(x, 0, 0, 4, 6);
        // 60 is 30 twos, 20 threes, 15 fours at 2 each: 80; or 12 fives at 5, 10 sixes at 2: 80.
        Check.text(x, "says 1+(n=4)+(n=5)*4+(n=6);meant 1;worth n;");
        x.force(1);
        CHECK.due("either way", x.pays(0, 5, 60, 2), 160);
        CHECK.due("in the fewest", x.pays(0, 5, 60, 3), 2);
        CHECK.due("back", x.pays(5, 0, 60, 2), 160);
        CHECK.due("back in the fewest", x.pays(5, 0, 60, 3), 2);
        CHECK.due("to nobody", x.pays(0, 3, 60, 3), -1);
        Check.text(x, "says 1+(n=4)+(n=5)*5+(n=6);meant 1;worth n;");
        x.force(2);
        CHECK.due("the longer way is cheaper", x.pays(0, 5, 60, 2), 160);
        CHECK.due("in three", x.pays(0, 5, 60, 3), 3);
    }

    private static void barred() {
        Counted x = new Counted();
        Check.heir(x, 0, 0, 2, 30);
        Check.heir(x, 0, 0, 2);
        Check.heir(x, 0, 0, 1);
        CHECK.due("odd ones", x.barred(0, 1, 0), 50);
        CHECK.due("the first", x.barred(0, 1, 1), 1);
        CHECK.due("their worth", x.barred(0, 1, 2), 2500);
        CHECK.due("all", x.barred(1, 2, 0), 99);
        Check.text(x, "says 1;meant 9<n and n<14 and heir=0;worth heir+3;");
        x.force(1);
        CHECK.due("odd ones that are meant", x.barred(0, 1, 0), 2);
        CHECK.due("the first", x.barred(0, 1, 1), 11);
        CHECK.due("their worth", x.barred(0, 1, 2), 6);
        CHECK.due("none is meant by the other", x.barred(1, 0, 0), 0);
        CHECK.due("no first", x.barred(1, 0, 1), -1);
        CHECK.due("no worth", x.barred(1, 0, 2), 0);
        x.force(0);
        x.set(2, 0, Check.bits(30));
        x.set(2, 1, Check.bits(30));
        CHECK.due("30, 60, 90 are left", x.barred(0, 1, 0), 96);
        CHECK.due("one and the same", x.barred(0, 0, 0), -2);
        CHECK.due("no such", x.barred(0, 3, 0), -2);
        CHECK.due("no such", x.barred(-1, 0, 0), -2);
        CHECK.due("no such what", x.barred(0, 1, 3), -2);
        CHECK.due("what below 0", x.barred(0, 1, -1), -2);
    }

    private static void silent() {
        Counted x = new Counted();
        CHECK.due("no HEIRS", x.silent(0), 99);
        CHECK.due("no HEIRS, the first", x.silent(1), 1);
        Check.heir(x, 0, 0, 1);
        CHECK.due("one HEIR", x.silent(0), 99);
        Check.heir(x, 0, 0, 1, 2);
        CHECK.due("two of a KIND that have 1", x.silent(0), 0);
        CHECK.due("none is first", x.silent(1), -1);
        x.set(2, 0, Check.bits(2));
        CHECK.due("odd ones", x.silent(0), 50);
        Check.heir(x, 0, 0, 3);
        Check.heir(x, 0, 0, 3);
        // No two can pay 2 and 3 together: 1, 5, 7, 11, .. are left.
        CHECK.due("by 2s or by 3s", x.silent(0), 33);
        CHECK.due("the first", x.silent(1), 1);
        Check.text(x, "says 1;meant 0;worth n;");
        x.force(1);
        CHECK.due("meant or not", x.silent(0), 33);
        CHECK.due("no such what", x.silent(2), -2);
        CHECK.due("what below 0", x.silent(-1), -2);
    }

    private static void middle() {
        Counted x = new Counted();
        CHECK.due("no HEIRS", x.middle(1, 0), -1);
        CHECK.due("no pairs", x.middle(1, 1), 0);
        Check.heir(x, 0, 0, 2);
        Check.heir(x, 0, 0, 2, 3);
        Check.heir(x, 0, 0, 3, 4, 6);
        Check.heir(x, 0, 0, 4);
        Check.heir(x, 0, 0, 6);
        // On 12: 0 - 1 - 2, and 2 - 3, 2 - 4: without 2 go 0-3, 0-4, 1-3, 1-4, 3-4; without 1 go 0-2, 0-3, 0-4.
        CHECK.due("12", x.middle(12, 0), 2);
        CHECK.due("12's pairs", x.middle(12, 1), 5);
        // On 6 3 can't: 0 - 1 - 2 - 4.
        CHECK.due("6", x.middle(6, 0), 1);
        CHECK.due("6's pairs", x.middle(6, 1), 2);
        CHECK.due("nobody can pay 1", x.middle(1, 0), -1);
        CHECK.due("no pairs", x.middle(1, 1), 0);
        CHECK.due("4: only two", x.middle(4, 0), -1);
        CHECK.due("SUM 0", x.middle(0, 0), -2);
        CHECK.due("SUM 100", x.middle(100, 0), -2);
        CHECK.due("99", x.middle(99, 0), -1);
        CHECK.due("no such what", x.middle(12, 2), -2);
        CHECK.due("what below 0", x.middle(12, -1), -2);
        // The first HEIR between all others; like ones: the first.
        Counted z = new Counted();
        Check.heir(z, 0, 0, 2, 3, 5);
        Check.heir(z, 0, 0, 2);
        Check.heir(z, 0, 0, 3);
        Check.heir(z, 0, 0, 5);
        CHECK.due("star", z.middle(30, 0), 0);
        CHECK.due("star's pairs", z.middle(30, 1), 3);
        Check.heir(z, 0, 0, 5, 7);
        Check.heir(z, 0, 0, 7);
        // On 35 0, 3 and 4 can each pay each other, and 4 can pay 5: without 4 go 0-5 and 3-5.
        CHECK.due("35", z.middle(35, 0), 4);
        CHECK.due("35's pairs", z.middle(35, 1), 2);
        // A ring has no middle.
        Counted y = new Counted();
        Check.heir(y, 0, 0, 1, 2);
        Check.heir(y, 0, 0, 2, 3);
        Check.heir(y, 0, 0, 3, 1);
        CHECK.due("ring", y.middle(6, 0), -1);
        CHECK.due("ring's pairs", y.middle(6, 1), 0);
    }
}
