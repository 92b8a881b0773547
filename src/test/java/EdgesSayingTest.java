import java.util.ArrayList;
import java.util.List;

/** The edges of promises 9 to 14: says, common, pays, barred, silent, middle. */
public final class EdgesSayingTest extends Edges {
    private static final Edges E = new Edges();
    private static final int NONE = NumbersInherited.NONE;
    private static final int ALL = (1 << 30) - 1;
    private static final int[] NO_MIDDLE_SUM = {0, -1, 100, Integer.MIN_VALUE, Integer.MAX_VALUE};
    private static final int[][] ORDERS = {{0, 1, 2, 3, 4, 5}, {5, 4, 3, 2, 1, 0}, {0, 5, 4, 3, 2, 1},
        {5, 0, 4, 1, 3, 2}, {3, 1, 4, 0, 5, 2}, {2, 4, 0, 5, 1, 3}};

    public static void main(String[] args) {
        saysBad();
        saysOfFamily();
        whetherOneCan();
        costs();
        meantAndWorth();
        common();
        paysBad();
        paysSumOfNothing();
        paysInParts();
        through();
        stepsOfLikeWays();
        barredBad();
        barred();
        silent();
        middleBad();
        middleNone();
        middle();
        E.close();
    }

    private static void asked(String sentence, Setting setting, Call call, long want) {
        E.changesNothing(sentence, Scene.NEW, setting, call, want);
    }

    // ---- 9: says

    private static void saysBad() {
        for (int what = 0; what < 4; what++) {
            int w = what;
            E.changesNothing("says: no HEIR", Scene.FAMILY, NO_HEIR, (x, v) -> x.says(v, 1, w), BAD);
            E.changesNothing("says: nobody", Scene.NEW, x -> x.says(0, 1, w), BAD);
            E.changesNothing("says: no NUMBER, no SUM", Scene.FAMILY, what < 2 ? NO_NUMBER : NO_SUM,
                (x, v) -> x.says(0, v, w), BAD);
        }
        E.changesNothing("says: no such what", Scene.FAMILY, whats(0, 3), (x, v) -> x.says(0, 1, v), BAD);
        E.changesNothing("says: no seventh HEIR", Scene.FULL, x -> x.says(6, 1, 0), BAD);
    }

    // ADDING HEIR 0 has 3, 5, 30, MORE 4; TWIN HEIR 2 has 12, MORE 7; says 2 ; meant n<50 ; worth 3 ;
    private static void saysOfFamily() {
        int[][] rows = {{0, 1, 0, 0}, {0, 30, 0, 1}, {0, 6, 0, 1}, {0, 7, 0, 0}, {2, 1, 0, 0}, {2, 12, 0, 1},
            {0, 1, 1, 3}, {0, 30, 1, 3}, {2, 1, 1, 9}, {2, 30, 1, 9}, {2, 12, 1, 9},
            {0, 0, 2, 1}, {0, 49, 2, 1}, {0, 50, 2, 0}, {0, 99, 2, 0}, {2, 0, 2, 1},
            {0, 0, 3, 3}, {0, 31, 3, 3}, {0, 99, 3, 3}, {2, 99, 3, 3}};
        for (int[] row : rows) {
            E.changesNothing("says: " + row[0] + ", " + row[1] + ", " + row[2], Scene.FAMILY,
                x -> x.says(row[0], row[1], row[2]), row[3]);
        }
    }

    private static void can(String sentence, int kind, int more, int[] own, int n, int want) {
        asked(sentence, x -> Check.heir(x, kind, more, own), x -> x.says(0, n, 0), want);
    }

    private static void whetherOneCan() {
        for (int kind = 0; kind < 6; kind++) {
            can("SAYS: each: if it is OWN: 1", kind, 0, own(1), 1, 1);
            can("SAYS: each: if it is OWN: 30", kind, 9, own(30), 30, 1);
            can("SAYS: each: not OWN, none", kind, 9, own(), 12, 0);
        }
        can("SAYS: HEIR: no two together", 0, 9, own(1, 2), 3, 0);
        can("SAYS: ADDING: two together", 1, 9, own(1, 29), 30, 1);
        can("SAYS: ADDING: one twice", 1, 9, own(15), 30, 1);
        can("SAYS: ADDING: one twice, the least", 1, 9, own(1), 2, 1);
        can("SAYS: ADDING: not three", 1, 9, own(1), 3, 0);
        can("SAYS: ADDING: not a half", 1, 9, own(2), 1, 0);
        can("SAYS: ADDING: not one less another", 1, 9, own(3, 10), 7, 0);
        can("SAYS: ADDING: 31 is none", 1, 9, own(1, 30), 1, 1);
        can("SAYS: ADDING: 32 is not 2", 1, 9, own(2, 30), 1, 0);
        can("SAYS: ADDING: 33 is not 1", 1, 9, own(3, 30), 1, 0);
        can("SAYS: HALVING: twice n is OWN", 2, 9, own(2), 1, 1);
        can("SAYS: HALVING: twice 15", 2, 9, own(30), 15, 1);
        can("SAYS: HALVING: twice 16 is none", 2, 9, own(30), 16, 0);
        can("SAYS: HALVING: not of odd ones", 2, 9, own(7), 3, 0);
        can("SAYS: HALVING: not of odd ones", 2, 9, own(7), 4, 0);
        can("SAYS: HALVING: not a quarter", 2, 9, own(12), 3, 0);
        can("SAYS: HALVING: not the double", 2, 9, own(6), 12, 0);
        can("SAYS: HALVING: MORE is none", 2, 9, own(1), 9, 0);
        can("SAYS: CLERK: as an ADDING", 3, 9, own(15), 30, 1);
        can("SAYS: CLERK: as an ADDING", 3, 9, own(4, 9), 13, 1);
        can("SAYS: CLERK: one less another", 3, 9, own(30, 1), 29, 1);
        can("SAYS: CLERK: one less another", 3, 9, own(30, 29), 1, 1);
        can("SAYS: CLERK: not less two", 3, 9, own(10, 3), 4, 0);
        can("SAYS: CLERK: not a half", 3, 9, own(14), 7, 0);
        can("SAYS: CLERK: not 1 of itself", 3, 9, own(7), 1, 0);
        can("SAYS: CLERK: not 30 of itself", 3, 9, own(7), 30, 0);
        can("SAYS: CLERK: not the double of a rest", 3, 9, own(20, 13), 14, 0);
        can("SAYS: CLERK: not one and a rest", 3, 9, own(20, 13), 27, 0);
        can("SAYS: TWIN: as a HALVING", 4, 9, own(30), 15, 1);
        can("SAYS: TWIN: MORE 1", 4, 1, own(), 1, 1);
        can("SAYS: TWIN: MORE 9", 4, 9, own(), 9, 1);
        can("SAYS: TWIN: MORE 0 is no NUMBER", 4, 0, own(), 1, 0);
        can("SAYS: TWIN: MORE 0 is no NUMBER", 4, 0, own(), 30, 0);
        can("SAYS: TWIN: not MORE's half", 4, 8, own(), 4, 0);
        can("SAYS: TWIN: not beside MORE", 4, 8, own(), 9, 0);
        can("SAYS: TWIN: not beside MORE", 4, 8, own(), 7, 0);
        can("SAYS: MANY: above 20 and 0", 5, 0, own(), 21, 1);
        can("SAYS: MANY: not 20", 5, 0, own(), 20, 0);
        can("SAYS: MANY: above 20 and 9", 5, 9, own(), 30, 1);
        can("SAYS: MANY: not 29", 5, 9, own(), 29, 0);
        can("SAYS: MANY: MORE is none", 5, 9, own(), 9, 0);
    }

    private static void costs(int kind, int more, String e, int want) {
        asked("COSTS: KIND " + kind + " of MORE " + more + ", says " + e,
            rule(x -> Check.heir(x, kind, more, 30), "says " + e + ";meant 1;worth 1;"), x -> x.says(0, 30, 1), want);
        // Whether one can or not.
        asked("COSTS: though one can't: KIND " + kind + " of MORE " + more + ", says " + e,
            rule(x -> Check.heir(x, kind, more), "says " + e + ";meant 1;worth 1;"), x -> x.says(0, 13, 1), want);
    }

    private static void costs() {
        // 0 .. 99, else the bound; 1 at least, in the end.
        String[] bounds = {"0-9999", "0-1", "0", "1", "2", "98", "99", "100", "9999", "8192*8192*32"};
        int[] told = {0, 0, 0, 1, 2, 98, 99, 99, 99, 0};
        for (int i = 0; i < bounds.length; i++) {
            int v = told[i];
            costs(0, 9, bounds[i], Math.max(1, v));
            costs(1, 9, bounds[i], v + 1);
            costs(2, 0, bounds[i], Math.max(1, v));
            costs(2, 1, bounds[i], v + 1);
            costs(2, 9, bounds[i], v + 9);
            costs(3, 9, bounds[i], Math.max(1, (v + 1) / 2));
            costs(4, 0, bounds[i], Math.max(1, v));
            costs(4, 9, bounds[i], v + 9);
            costs(5, 9, bounds[i], Math.max(1, 2 * v));
        }
        costs(3, 0, "3", 2);
        costs(3, 0, "4", 2);
        costs(3, 0, "5", 3);
        // own: 1 if it is OWN, else 0, though one can say it.
        Setting adding = rule(x -> Check.heir(x, 1, 0, 1, 15), "says 10+own*20+many*3;meant 1;worth 1;");
        asked("TEXT: own of an OWN one", adding, x -> x.says(0, 1, 1), 37);
        asked("TEXT: own of an OWN one", adding, x -> x.says(0, 15, 1), 37);
        asked("TEXT: own of one that can be said", adding, x -> x.says(0, 30, 1), 17);
        asked("TEXT: own of one that can't", adding, x -> x.says(0, 29, 1), 17);
        asked("TEXT: many of all", rule(x -> x.set(2, x.heir(0, 0), ALL), "says many;meant 1;worth 1;"),
            x -> x.says(0, 1, 1), 30);
        asked("TEXT: many of none", rule(x -> x.heir(0, 0), "says many+7;meant 1;worth 1;"), x -> x.says(0, 1, 1), 7);
    }

    private static void meantAndWorth() {
        String[] es = {"0-9999", "0-1", "0", "1", "98", "99", "100", "9999", "8192*8192*32"};
        int[] worth = {0, 0, 0, 1, 98, 99, 99, 99, 0};
        for (int i = 0; i < es.length; i++) {
            Setting setting = rule(x -> x.heir(0, 0), "says 1;meant " + es[i] + ";worth " + es[i] + ";");
            asked("worth: 0 .. 99, else the bound: " + es[i], setting, x -> x.says(0, 50, 3), worth[i]);
            asked("meant: not 0: yes: " + es[i], setting, x -> x.says(0, 50, 2), es[i].equals("0") ? 0 : 1);
        }
        Setting setting = rule(x -> Check.heir(x, 0, 7, 9), "says 1;meant own+(n=99);worth own+n;");
        asked("meant: own of a SUM: 0", setting, x -> x.says(0, 9, 2), 0);
        asked("meant: n is the SUM", setting, x -> x.says(0, 99, 2), 1);
        asked("worth: own of a SUM: 0", setting, x -> x.says(0, 9, 3), 9);
        asked("worth: n is the SUM 0", setting, x -> x.says(0, 0, 3), 0);
        asked("worth: n is the SUM 99", setting, x -> x.says(0, 99, 3), 99);
    }

    // ---- 10: common

    private static void common() {
        E.changesNothing("common: no HEIR", Scene.FAMILY, NO_HEIR, (x, v) -> x.common(v, 0), BAD);
        E.changesNothing("common: no other one", Scene.FAMILY, NO_HEIR, (x, v) -> x.common(0, v), BAD);
        E.changesNothing("common: one and the same", Scene.FAMILY, new int[] {0, 1, 2}, (x, v) -> x.common(v, v),
            BAD);
        E.changesNothing("common: nobody", Scene.NEW, x -> x.common(0, 1), BAD);
        E.changesNothing("common: both can say, OWN or not", Scene.FAMILY, x -> x.common(0, 1), Check.bits(5, 6, 8, 10));
        E.changesNothing("common: the last two", Scene.FAMILY, x -> x.common(2, 1), Check.bits(6));
        E.changesNothing("common: first and sixth", Scene.FULL, x -> x.common(0, 5), Check.bits(12));
        asked("common: none have any", family(own(), own()), x -> x.common(0, 1), 0);
        asked("common: none are alike", family(own(1), own(30)), x -> x.common(0, 1), 0);
        asked("common: 1 and 30", family(own(1, 2, 30), own(1, 3, 30)), x -> x.common(1, 0), Check.bits(1, 30));
        asked("common: all", x -> {
            x.set(2, x.heir(0, 0), ALL);
            x.set(2, x.heir(0, 0), ALL);
        }, x -> x.common(0, 1), ALL);
    }

    // ---- 11: pays

    private static void paysBad() {
        for (int what = 0; what < 4; what++) {
            int w = what;
            E.changesNothing("pays: no HEIR", Scene.FAMILY, NO_HEIR, (x, v) -> x.pays(v, 1, 5, w), BAD);
            E.changesNothing("pays: no other one", Scene.FAMILY, NO_HEIR, (x, v) -> x.pays(1, v, 5, w), BAD);
            E.changesNothing("pays: one and the same", Scene.FAMILY, new int[] {0, 1, 2}, (x, v) -> x.pays(v, v, 5, w),
                BAD);
            E.changesNothing("pays: one and the same, SUM 0", Scene.FAMILY, x -> x.pays(1, 1, 0, w), BAD);
            E.changesNothing("pays: no SUM", Scene.FAMILY, NO_SUM, (x, v) -> x.pays(0, 1, v, w), BAD);
            E.changesNothing("pays: nobody", Scene.NEW, x -> x.pays(0, 1, 0, w), BAD);
        }
        E.changesNothing("pays: no such what", Scene.FAMILY, whats(0, 3), (x, v) -> x.pays(0, 1, 5, v), BAD);
    }

    private static void paysFour(String sentence, Setting setting, int sum, int... want) {
        for (int what = 0; what < 4; what++) {
            int w = what;
            asked(sentence + ": SUM " + sum + ", what " + what, setting, x -> x.pays(0, 1, sum, w), want[what]);
            asked(sentence + ", back: SUM " + sum + ", what " + what, setting, x -> x.pays(1, 0, sum, w), want[what]);
        }
    }

    private static void paysSumOfNothing() {
        paysFour("pays: a SUM 0: no PARTS", family(own(), own()), 0, 0, 0, 0, 1);
        paysFour("pays: a SUM 0: no PARTS", family(own(1), own(1)), 0, 0, 0, 0, 1);
        paysFour("pays: nothing in COMMON", family(own(), own()), 1, NONE, NONE, NONE, NONE);
        paysFour("pays: nothing in COMMON", family(own(2, 4), own(1, 3)), 99, NONE, NONE, NONE, NONE);
    }

    private static void paysInParts() {
        Setting ones = family(own(1, 30), own(1));
        paysFour("pays: the least in the least", ones, 1, 2, 1, 2, 1);
        paysFour("pays: the most in the least", ones, 99, 198, 99, 198, 1);
        paysFour("pays: not by what only one can say", ones, 30, 60, 30, 60, 1);
        Setting thirties = family(own(30), own(30));
        paysFour("pays: a PART is more than the SUM", thirties, 29, NONE, NONE, NONE, NONE);
        paysFour("pays: a PART is the SUM", thirties, 30, 2, 1, 2, 1);
        paysFour("pays: more than a PART", thirties, 31, NONE, NONE, NONE, NONE);
        paysFour("pays: one may be there more often", thirties, 90, 6, 3, 6, 1);
        paysFour("pays: beside", thirties, 89, NONE, NONE, NONE, NONE);
        paysFour("pays: beside", thirties, 91, NONE, NONE, NONE, NONE);
        Setting dear = rule(family(own(1, 30), own(1, 30)), "says 1+(n=30)*29;meant 1;worth 1;");
        paysFour("pays: like COSTS", dear, 30, 60, 1, 60, 1);
        Setting dearer = rule(family(own(1, 30), own(1, 30)), "says 1+(n=30)*30;meant 1;worth 1;");
        paysFour("pays: what COSTS least has not the fewest PARTS", dearer, 30, 60, 1, 60, 1);
        Setting less = rule(family(own(1, 30), own(1, 30)), "says 1+(n=30)*28;meant 1;worth 1;");
        paysFour("pays: what COSTS least", less, 30, 58, 1, 58, 1);
        // What each says by itself: 4 to the one, 1 to the other.
        Setting unlike = rule(family(own(5), own(5)), "says 4-3*heir;meant 1;worth 1;");
        paysFour("pays: COSTS both", unlike, 5, 5, 1, 5, 1);
        // As dear as can be.
        paysFour("pays: 99 PARTS, dear", rule(x -> {
            Check.heir(x, 5, 9, 1);
            Check.heir(x, 2, 9, 1);
        }, "says 99;meant 1;worth 1;"), 99, 99 * (198 + 108), 99, 99 * (198 + 108), 1);
    }

    /** Six HEIRS, each of whom can PAY but the next one in that order: by 2, 3, 4, 5, 6. */
    private static Setting chain(int... order) {
        int[][] owns = new int[6][];
        for (int i = 0; i < 6; i++) {
            owns[order[i]] = i == 0 ? own(2) : i == 5 ? own(6) : own(i + 1, i + 2);
        }
        return family(owns);
    }

    private static void through() {
        int[] costs = {60, 40, 30, 24, 20};
        for (int[] order : ORDERS) {
            for (int from = 0; from < 6; from++) {
                int sum = 0;
                for (int to = from + 1; to < 6; to++) {
                    sum += costs[to - 1];
                    int a = order[from];
                    int b = order[to];
                    asked("THROUGH: any HEIR to a next", chain(order), x -> x.pays(a, b, 60, 2), sum);
                    asked("THROUGH: back", chain(order), x -> x.pays(b, a, 60, 2), sum);
                    asked("STEPS: any HEIR to a next", chain(order), x -> x.pays(a, b, 60, 3), to - from);
                    asked("STEPS: back", chain(order), x -> x.pays(b, a, 60, 3), to - from);
                    // Of 30 fours make none, so that nobody pays on behind the third.
                    boolean isCut = from < 3 && to > 2;
                    E.due("THROUGH: the whole SUM each time",
                        ask(Scene.NEW, chain(order), x -> x.pays(a, b, 30, 2)), isCut ? NONE : sum / 2);
                    E.due("STEPS: NONE", ask(Scene.NEW, chain(order), x -> x.pays(a, b, 30, 3)), isCut ? NONE : to - from);
                }
            }
        }
    }

    /** A way of 2 and one of 3 STEPS, among HEIRS in each order. */
    private static void stepsOfLikeWays() {
        int[][] owns = {own(12, 20), own(12, 15), own(15, 10), own(20, 30), own(30, 10)};
        // 60 by 5 twelves, 4 fifteens; or by 3 twenties, 2 thirties, 6 tens.
        String like = "says 1+(n=12)+(n=20);meant 1;worth 1;";
        String dearer = "says 1+(n=12)+(n=20)+(n=15);meant 1;worth 1;";
        String cheaper = "says 1+(n=20);meant 1;worth 1;";
        for (int[] order : orders(new ArrayList<>(), 5)) {
            int[][] own = new int[5][];
            for (int i = 0; i < 5; i++) {
                own[order[i]] = owns[i];
            }
            int a = order[0];
            int b = order[2];
            E.due("THROUGH: like ways", ask(Scene.NEW, rule(family(own), like), x -> x.pays(a, b, 60, 2)), 28);
            E.due("STEPS: the fewest of like ways", ask(Scene.NEW, rule(family(own), like), x -> x.pays(a, b, 60, 3)), 2);
            E.due("THROUGH: the longer", ask(Scene.NEW, rule(family(own), dearer), x -> x.pays(a, b, 60, 2)), 28);
            E.due("STEPS: not the fewest of all ways", ask(Scene.NEW, rule(family(own), dearer), x -> x.pays(a, b, 60, 3)), 3);
            E.due("THROUGH: the shorter", ask(Scene.NEW, rule(family(own), cheaper), x -> x.pays(a, b, 60, 2)), 18);
            E.due("STEPS: of the shorter", ask(Scene.NEW, rule(family(own), cheaper), x -> x.pays(a, b, 60, 3)), 2);
        }
        // At once, or through another: like COSTS, one more, one less.
        for (int price = 3; price <= 5; price++) {
            Setting three = rule(family(own(12, 6), own(12, 4), own(6, 4)),
                "says 1+(n=12)*" + price + ";meant 1;worth 1;");
            // 12 at once; or 2 sixes and 3 fours: 5 PARTS.
            paysFour("THROUGH: at once or not, for " + (price + 1), three, 12, 2 * (price + 1), 1,
                2 * Math.min(price + 1, 5), price == 5 ? 2 : 1);
        }
    }

    private static List<int[]> orders(List<Integer> begun, int size) {
        List<int[]> all = new ArrayList<>();
        if (begun.size() == size) {
            all.add(begun.stream().mapToInt(Integer::intValue).toArray());
        }
        for (int i = 0; i < size; i++) {
            if (!begun.contains(i)) {
                List<Integer> next = new ArrayList<>(begun);
                next.add(i);
                all.addAll(orders(next, size));
            }
        }
        return all;
    }

    // ---- 12: barred

    private static void barredBad() {
        for (int what = 0; what < 3; what++) {
            int w = what;
            E.changesNothing("barred: no HEIR", Scene.FAMILY, NO_HEIR, (x, v) -> x.barred(v, 1, w), BAD);
            E.changesNothing("barred: no other one", Scene.FAMILY, NO_HEIR, (x, v) -> x.barred(1, v, w), BAD);
            E.changesNothing("barred: one and the same", Scene.FAMILY, new int[] {0, 1, 2}, (x, v) -> x.barred(v, v, w),
                BAD);
            E.changesNothing("barred: nobody", Scene.NEW, x -> x.barred(0, 1, w), BAD);
        }
        E.changesNothing("barred: no such what", Scene.FAMILY, whats(0, 2), (x, v) -> x.barred(0, 1, v), BAD);
    }

    private static void barredThree(String sentence, Setting setting, int many, int first, int worth) {
        int[] want = {many, first, worth};
        for (int what = 0; what < 3; what++) {
            int w = what;
            asked("BARRED: " + sentence + ", what " + what, setting, x -> x.barred(0, 1, w), want[what]);
        }
    }

    private static void barred() {
        Setting none = family(own(), own());
        barredThree("SUMS 1 .. 99", none, 99, 1, 4950);
        barredThree("none", family(own(1), own(1)), 0, NONE, 0);
        barredThree("not what can be paid", family(own(3), own(3)), 66, 1, 3267);
        barredThree("what 30 does not make", family(own(30), own(30)), 96, 1, 4950 - 180);
        barredThree("not SUM 0", rule(none, "says 1;meant n=0;worth 5;"), 0, NONE, 0);
        barredThree("SUM 1", rule(none, "says 1;meant n=1;worth n+4;"), 1, 1, 5);
        barredThree("SUM 99", rule(none, "says 1;meant n=99;worth n;"), 1, 99, 99);
        barredThree("not SUM 100", rule(none, "says 1;meant n=100;worth n;"), 0, NONE, 0);
        barredThree("none is meant", rule(none, "says 1;meant 0;worth n;"), 0, NONE, 0);
        barredThree("meant, but paid", rule(family(own(7), own(7)), "says 1;meant n=49;worth n;"), 0, NONE, 0);
        barredThree("meant, and not paid", rule(family(own(7), own(7)), "says 1;meant n=50;worth n;"), 1, 50, 50);
        barredThree("worth at most", rule(none, "says 1;meant 1;worth 100;"), 99, 1, 9801);
        barredThree("worth at least", rule(none, "says 1;meant 1;worth 0-1;"), 99, 1, 0);
        barredThree("worth, meant of the one", rule(none, "says 1;meant heir=0;worth heir+2;"), 99, 1, 198);
        barredThree("not meant by the one", rule(none, "says 1;meant heir=1;worth heir+2;"), 0, NONE, 0);
        barredThree("by the day", rule(x -> {
            none.of(x);
            x.set(0, 0, 98);
        }, "says 1;meant day<n;worth day;"), 1, 99, 98);
        E.changesNothing("BARRED: meant below 50, not by 5, 6, 8, 10", Scene.FAMILY, x -> x.barred(1, 0, 0), 6);
        E.changesNothing("BARRED: the first", Scene.FAMILY, x -> x.barred(1, 0, 1), 1);
        E.changesNothing("BARRED: worth 3 each", Scene.FAMILY, x -> x.barred(1, 0, 2), 18);
    }

    // ---- 13: silent

    private static void silentTwo(String sentence, Setting setting, int many, int first) {
        asked("SILENT: " + sentence + ": how many", setting, x -> x.silent(0), many);
        asked("SILENT: " + sentence + ": the first", setting, x -> x.silent(1), first);
    }

    private static void silent() {
        E.changesNothing("silent: no such what", Scene.FAMILY, whats(0, 1), (x, v) -> x.silent(v), BAD);
        E.changesNothing("silent: no such what", Scene.NEW, whats(0, 1), (x, v) -> x.silent(v), BAD);
        silentTwo("nobody", family(), 99, 1);
        silentTwo("one alone", family(own(1)), 99, 1);
        silentTwo("two, nothing in COMMON", family(own(1), own(2)), 99, 1);
        silentTwo("all can be paid", family(own(1), own(1)), 0, NONE);
        silentTwo("each SUM by 2", family(own(2), own(2)), 50, 1);
        silentTwo("each SUM by 30", family(own(30), own(30)), 96, 1);
        silentTwo("by the last two of six", family(own(), own(), own(), own(), own(1), own(1)), 0, NONE);
        silentTwo("by first and last", family(own(1), own(), own(), own(), own(), own(1)), 0, NONE);
        silentTwo("by two pairs", family(own(2), own(2), own(3), own(3)), 33, 1);
        silentTwo("by one with two", family(own(2), own(2, 3), own(3)), 33, 1);
        silentTwo("asked again", x -> {
            family(own(1, 2), own(1, 2)).of(x);
            x.silent(0);
            x.set(2, 1, Check.bits(2));
        }, 50, 1);
        silentTwo("meant or not", rule(family(own(2), own(2)), "says 1;meant 0;worth 1;"), 50, 1);
    }

    // ---- 14: middle

    private static void middleBad() {
        for (int what = 0; what < 2; what++) {
            int w = what;
            E.changesNothing("middle: SUM 1 .. 99", Scene.FAMILY, NO_MIDDLE_SUM, (x, v) -> x.middle(v, w), BAD);
            E.changesNothing("middle: SUM 1 .. 99", Scene.NEW, NO_MIDDLE_SUM, (x, v) -> x.middle(v, w), BAD);
        }
        E.changesNothing("middle: no such what", Scene.FAMILY, whats(0, 1), (x, v) -> x.middle(9, v), BAD);
        E.changesNothing("middle: no such what", Scene.NEW, whats(0, 1), (x, v) -> x.middle(9, v), BAD);
    }

    private static void middleTwo(String sentence, Setting setting, int sum, int heir, int pairs) {
        asked("MIDDLE: " + sentence + ", of " + sum, setting, x -> x.middle(sum, 0), heir);
        asked("MIDDLE: " + sentence + ", of " + sum + ": pairs", setting, x -> x.middle(sum, 1), pairs);
    }

    private static void middleNone() {
        for (int sum : new int[] {1, 99}) {
            middleTwo("nobody", family(), sum, NONE, 0);
            middleTwo("one", family(own(1)), sum, NONE, 0);
            middleTwo("two", family(own(1), own(1)), sum, NONE, 0);
            middleTwo("three, each to each", family(own(1), own(1), own(1)), sum, NONE, 0);
            middleTwo("three, none to none", family(own(), own(), own()), sum, NONE, 0);
            middleTwo("six, each to each", family(own(1), own(1), own(1), own(1), own(1), own(1)), sum, NONE, 0);
        }
        middleTwo("a ring", family(own(2, 3), own(3, 4), own(4, 6), own(6, 2)), 12, NONE, 0);
        // 6 is not paid by 4: 1 - 0 - 3 - 2.
        middleTwo("a ring that is open", family(own(2, 3), own(3, 4), own(4, 6), own(6, 2)), 6, 0, 2);
    }

    private static void middle() {
        middleTwo("the one between", family(own(1), own(1, 2), own(2)), 2, 1, 1);
        middleTwo("the one between", family(own(3), own(3, 11), own(11)), 99, 1, 1);
        middleTwo("not between, of another SUM", family(own(3), own(3, 11), own(11)), 98, NONE, 0);
        middleTwo("the first between", family(own(1, 2), own(1), own(2)), 2, 0, 1);
        middleTwo("the last between", family(own(1), own(2), own(1, 2)), 2, 2, 1);
        int[][] star = {own(2), own(3), own(4), own(5), own(6)};
        for (int at = 0; at < 6; at++) {
            int[][] owns = new int[6][];
            for (int i = 0; i < 6; i++) {
                owns[i] = i == at ? own(2, 3, 4, 5, 6) : star[i < at ? i : i - 1];
            }
            middleTwo("of a star", family(owns), 60, at, 10);
        }
        for (int[] order : ORDERS) {
            // Two before, three behind; or three before, two behind: of like ones the first.
            middleTwo("of a chain", chain(order), 60, Math.min(order[2], order[3]), 6);
            // Of 30: the second is between the first and the third, the fifth between the fourth and the sixth.
            middleTwo("of a chain that is cut", chain(order), 30, Math.min(order[1], order[4]), 1);
        }
        middleTwo("pairs that can't now are none", family(own(2), own(2, 3), own(3), own(5), own(7), own(9)), 6, 1, 1);
    }
}
