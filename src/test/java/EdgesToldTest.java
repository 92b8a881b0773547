/** The edges of promises 18 to 24: rows, film, drawn, chance, image, back, count. */
public final class EdgesToldTest extends Edges {
    private static final Edges E = new Edges();
    private static final int NONE = NumbersInherited.NONE;
    private static final long NO = NumbersInherited.NO;
    private static final int ALL = (1 << 30) - 1;
    private static final int[] NO_PAIR = {0, 11, 22, 3, 13, 23, 30, 31, 33, 100, 101, 110, 112, 1001, -1, -2, -9, -10,
        -12, -21, Integer.MIN_VALUE, Integer.MAX_VALUE};
    private static final int[] SEEDS = {0, 1, -1, 12345, Integer.MIN_VALUE, Integer.MAX_VALUE};

    public static void main(String[] args) {
        rowsBad();
        rowsOfNothing();
        rowsBySize();
        rowsOfNoSum();
        rowsFirst();
        kinds();
        mores();
        texts();
        must();
        may();
        filmBad();
        filmMany();
        filmPairs();
        filmItems();
        drawn();
        chanceNo();
        chance();
        image();
        back();
        backKeeps();
        count();
        E.close();
    }

    /** With SHEET 3 of ints, told so. */
    private static Setting told(Setting family, int... items) {
        return x -> {
            family.of(x);
            Check.sheet(x, 3, 2, items);
        };
    }

    private static void rows(String sentence, Setting setting, int what, int want) {
        E.changesNothing(sentence, Scene.NEW, setting, x -> x.rows(3, 0, 1, what), want);
    }

    // ---- 18: rows

    private static void rowsBad() {
        for (int what = 0; what < 6; what++) {
            int w = what;
            E.changesNothing("rows: no SHEET", Scene.FAMILY, NO_SHEET, (x, v) -> x.rows(v, 0, 1, w), BAD);
            E.changesNothing("rows: no HEIR", Scene.FAMILY, NO_HEIR, (x, v) -> x.rows(1, v, 1, w), BAD);
            E.changesNothing("rows: no other one", Scene.FAMILY, NO_HEIR, (x, v) -> x.rows(1, 1, v, w), BAD);
            E.changesNothing("rows: one and the same", Scene.FAMILY, new int[] {0, 1, 2}, (x, v) -> x.rows(1, v, v, w),
                BAD);
            E.changesNothing("rows: nobody", Scene.NEW, x -> x.rows(0, 0, 1, w), BAD);
            // BAD is ahead of -11.
            E.changesNothing("rows: no HEIR, missing", Scene.FAMILY, NO_HEIR, (x, v) -> x.rows(3, v, 1, w), BAD);
            E.changesNothing("rows: no other, missing", Scene.FAMILY, NO_HEIR, (x, v) -> x.rows(3, 1, v, w), BAD);
            E.changesNothing("rows: one and the same, missing", Scene.FAMILY, x -> x.rows(3, 1, 1, w), BAD);
            E.changesNothing("rows: missing", Scene.FAMILY, x -> x.rows(3, 0, 1, w), NOTHING);
        }
        int[] whats = whats(0, 5);
        E.changesNothing("rows: no such what", Scene.FAMILY, whats, (x, v) -> x.rows(1, 0, 1, v), BAD);
        E.changesNothing("rows: no such what, missing", Scene.FAMILY, whats, (x, v) -> x.rows(3, 0, 1, v), BAD);
    }

    private static void rowsOfNothing() {
        int[] of = {NONE, 63, 1023, 3, 0, ALL & ~Check.bits(3, 5, 30)};
        for (int what = 0; what < 6; what++) {
            int w = what;
            for (int sort = 0; sort < 3; sort++) {
                int s = sort;
                E.changesNothing("rows: none: all would be so", Scene.FAMILY, x -> x.sheet(3, s, 0), x -> x.rows(3, 0, 1, w),
                    of[w]);
            }
        }
        rows("rows: none, of one who has all: no MAY", told(x -> {
            x.set(2, x.heir(0, 0), ALL);
            x.heir(0, 0);
        }), 5, 0);
        rows("rows: none, of one who has none: MAY", told(family(own(), own())), 5, ALL);
        rows("rows: none: TEXT 0 alone", told(family(own(), own())), 3, 1);
        E.changesNothing("rows: none: six TEXTS", Scene.FULL, x -> x.sheet(3, 0, 0), x -> x.rows(3, 0, 1, 3), 63);
    }

    private static void rowsBySize() {
        Setting family = family(own(), own());
        for (int size = 1; size <= 40; size++) {
            int n = size;
            for (int what = 0; what < 6; what++) {
                int w = what;
                boolean isOdd = size % 2 == 1;
                // All 0: SUM 0 COSTS 0.
                int[] so = {NONE, 63, 1023, 1, 0, ALL};
                long got = ask(Scene.NEW, x -> {
                    family.of(x);
                    x.sheet(3, 0, n);
                }, x -> x.rows(3, 0, 1, w));
                E.due("rows: its size by twos: " + size, got, isOdd ? BAD : so[what]);
            }
        }
        E.changesNothing("rows: of one item", Scene.FAMILY, x -> x.sheet(3, 1, 1), x -> x.rows(3, 0, 1, 0), BAD);
        E.changesNothing("rows: of 39", Scene.FAMILY, x -> x.sheet(3, 1, 39), x -> x.rows(3, 0, 1, 4), BAD);
    }

    private static void rowsOfNoSum() {
        for (int what = 0; what < 6; what++) {
            int w = what;
            for (int sum : NO_SUM) {
                rows("rows: no such SUM: " + sum, told(family(own(), own()), sum, NONE), w, BAD);
                rows("rows: no such SUM behind: " + sum, told(family(own(), own()), 0, 0, 1, NONE, sum, 0), w, BAD);
                rows("rows: no such SUM behind one that is otherwise", told(family(own(), own()), 1, 5, sum, 0), w,
                    BAD);
            }
        }
        rows("rows: SUM 0", told(family(own(), own()), 0, 0), 0, NONE);
        rows("rows: SUM 0 isn't NONE", told(family(own(), own()), 0, NONE), 0, 0);
        rows("rows: SUM 99", told(family(own(3), own(3)), 99, 66), 0, NONE);
        rows("rows: SUM 99 that can't be", told(family(own(2), own(2)), 99, NONE), 0, NONE);
        // A place that is no SUM's may be any number.
        rows("rows: COSTS of any size", told(family(own(1), own(1)), 1, 100), 0, 0);
        rows("rows: COSTS below NONE", told(family(own(), own()), 1, -2), 0, 0);
        rows("rows: COSTS 0 aren't NONE", told(family(own(), own()), 1, 0), 0, 0);
        // A byte of 200 is below 0, one of 355 is 99.
        E.changesNothing("rows: a SUM of bytes", Scene.FAMILY, x -> Check.sheet(x, 3, 0, 200, 0), x -> x.rows(3, 0, 1, 0),
            BAD);
        E.changesNothing("rows: a SUM of bytes", Scene.FAMILY, x -> Check.sheet(x, 3, 0, 355, 99), x -> x.rows(3, 0, 1, 0),
            0);
    }

    private static void rowsFirst() {
        Setting twos = family(own(2), own(2));
        for (int at = 0; at <= 20; at++) {
            int[] items = new int[40];
            for (int row = 0; row < 20; row++) {
                items[2 * row] = 80 + row;
                items[2 * row + 1] = (row % 2 == 1 ? NONE : 80 + row) + (row == at ? 1 : 0);
            }
            rows("rows: the first of 20 that is otherwise", told(twos, items), 0, at == 20 ? NONE : at);
        }
        rows("rows: the first of two that are", told(twos, 2, 2, 4, 5, 6, 7), 0, 1);
        rows("rows: one SUM twice, otherwise the second time", told(twos, 2, 2, 2, 3), 0, 1);
        rows("rows: not the second's SUM and the first's COSTS", told(twos, 2, 2, 3, NONE, 5, NONE), 0, NONE);
    }

    /** One of a KIND and MORE who has 3, and an HEIR who has it; each 3 COSTS 3 ahead of KIND. */
    private static Setting three(int kind, int more, int costs) {
        return told(x -> {
            Check.heir(x, kind, more, 3);
            Check.heir(x, 0, 0, 3);
            x.force(Check.text(x, "says 3;meant 1;worth 1;"));
        }, 3, costs);
    }

    private static void kinds() {
        for (int kind = 0; kind < 6; kind++) {
            rows("KINDS: HEIR", three(kind, 1, 6), 1, 1);
            rows("KINDS: ADDING, HALVING, TWIN", three(kind, 1, 7), 1, 2 | 4 | 16);
            rows("KINDS: CLERK", three(kind, 1, 5), 1, 8);
            rows("KINDS: MANY", three(kind, 1, 9), 1, 32);
            rows("KINDS: with MORE 0", three(kind, 0, 6), 1, 1 | 4 | 16);
            rows("KINDS: with MORE 9", three(kind, 9, 15), 1, 4 | 16);
            rows("KINDS: none", three(kind, 9, 16), 1, 0);
        }
    }

    private static void mores() {
        for (int more = 0; more < 10; more++) {
            for (int costs = 5; costs <= 16; costs++) {
                int bits = costs < 6 || costs > 15 ? 0 : 1 << costs - 6;
                rows("MORES: of a HALVING one: " + costs, three(2, more, costs), 2, bits);
            }
        }
        rows("MORES: of an HEIR: all", three(0, 5, 6), 2, 1023);
        rows("MORES: of an HEIR: none", three(0, 5, 7), 2, 0);
        for (int more = 0; more < 10; more++) {
            int m = more;
            rows("MORES: of one of MANY: 29 is above 20 and 8", told(x -> {
                x.heir(5, m);
                Check.heir(x, 0, 0, 29);
            }, 29, 3), 2, 511);
            rows("MORES: of one of MANY: 29 is not above 29", told(x -> {
                x.heir(5, m);
                Check.heir(x, 0, 0, 29);
            }, 29, NONE), 2, 512);
        }
    }

    private static void texts() {
        for (int rule = 0; rule < 6; rule++) {
            int r = rule;
            for (int text = 1; text < 6; text++) {
                int costs = 2 * text + 1;
                E.changesNothing("TEXTS: 12 by " + costs, Scene.FULL, x -> {
                    x.force(r);
                    Check.sheet(x, 3, 2, 12, costs);
                }, x -> x.rows(3, 0, 1, 3), text == 1 ? 1 | 2 : 1 << text);
            }
            E.changesNothing("TEXTS: none", Scene.FULL, x -> {
                x.force(r);
                Check.sheet(x, 3, 2, 12, 13);
            }, x -> x.rows(3, 0, 1, 3), 0);
        }
        E.changesNothing("TEXTS: but those that are", Scene.FAMILY, x -> Check.sheet(x, 3, 2, 7, NONE),
            x -> x.rows(3, 0, 1, 3), 3);
    }

    private static void must() {
        rows("MUST: 1", told(family(own(1, 2), own(1)), 1, 2), 4, Check.bits(1));
        rows("MUST: 30", told(family(own(29, 30), own(30)), 30, 2), 4, Check.bits(30));
        rows("MUST: 1 and 30", told(family(own(1, 15, 30), own(1, 30)), 31, 4), 4, Check.bits(1, 30));
        rows("MUST: none has any", told(family(own(), own()), 1, NONE), 4, 0);
        rows("MUST: that alone, the other makes it as well", told(x -> {
            Check.heir(x, 1, 0, 1, 2);
            Check.heir(x, 0, 0, 2);
        }, 2, 3), 4, 0);
        // As if 4 were not OWN: without it all would be so, without any other not.
        rows("MUST: not all are so now", told(family(own(2, 4), own(2, 4)), 4, 4), 4, Check.bits(2));
        rows("MUST: not all are so, ever", told(family(own(2, 4, 30), own(2, 4)), 4, 5), 4, Check.bits(2, 4, 30));
    }

    private static void may() {
        rows("MAY: 1 may not", told(family(own(2), own(1, 2)), 1, NONE), 5, ALL & ~Check.bits(1, 2));
        rows("MAY: 30 may not", told(family(own(2), own(2, 30)), 30, 30), 5, ALL & ~Check.bits(2, 30));
        rows("MAY: 1 alone", told(family(own(), own(1, 30)), 1, 2), 5, Check.bits(1));
        rows("MAY: 30 alone", told(family(own(), own(1, 30)), 30, 2), 5, Check.bits(30));
        rows("MAY: that alone, not two together", told(family(own(), own(1, 30)), 31, 4), 5, 0);
        rows("MAY: those that aren't OWN", told(family(own(1, 30), own(1, 30)), 31, 4), 5, ALL & ~Check.bits(1, 30));
        rows("MAY: not all would be so", told(family(own(2), own(2)), 2, 3), 5, 0);
        // Each as of one's KIND and MORE, on a new object: no other has been asked about before.
        Setting adding = told(x -> {
            Check.heir(x, 1, 0);
            Check.heir(x, 0, 0, 2);
        }, 2, 3);
        rows("MAY: of an ADDING one", adding, 5, Check.bits(1, 2));
        Setting halving = told(x -> {
            Check.heir(x, 2, 7, 24);
            Check.heir(x, 0, 0, 12);
        }, 12, 9);
        rows("MAY: of a HALVING one", halving, 5, ALL & ~Check.bits(24));
        rows("MUST: of a HALVING one", halving, 4, Check.bits(24));
        rows("KINDS: of a HALVING one", halving, 1, 4 | 16);
        rows("MORES: of a HALVING one", halving, 2, 1 << 7);
        // Asked of one, then of the other, with nothing between.
        Counted x = new Counted();
        told(family(own(4), own(9), own(4, 9)), 4, 2).of(x);
        E.due("MUST of the first", x.rows(3, 0, 2, 4), Check.bits(4));
        E.due("MAY of the second", x.rows(3, 1, 2, 5), Check.bits(4));
        E.due("MAY of the first", x.rows(3, 0, 2, 5), ALL & ~Check.bits(4));
    }

    // ---- 19: film

    private static void filmBad() {
        E.changesNothing("film: no SHEET", Scene.FAMILY, NO_SHEET, (x, v) -> x.film(v, 1, 0, 1), BAD);
        E.changesNothing("film: ab: no such, one and the same", Scene.FAMILY, NO_PAIR, (x, v) -> x.film(1, v, 0, 1),
            BAD);
        E.changesNothing("film: no SUM", Scene.FAMILY, NO_SUM, (x, v) -> x.film(1, 1, v, 1), BAD);
        int[] no = {-1, 21, Integer.MIN_VALUE, Integer.MAX_VALUE};
        E.changesNothing("film: n 0 .. 20", Scene.FAMILY, no, (x, v) -> x.film(1, 1, 0, v), BAD);
        E.changesNothing("film: n 0 .. 20, though 99 is near", Scene.FAMILY, no, (x, v) -> x.film(1, 1, 99, v), BAD);
        E.changesNothing("film: no SUM, and none asked for", Scene.FAMILY, x -> x.film(1, 1, 100, 0), BAD);
        E.changesNothing("film: nobody", Scene.NEW, x -> x.film(0, 1, 0, 0), BAD);
        E.changesNothing("film: a missing SHEET stays so", Scene.FAMILY, x -> x.film(3, 1, 0, 21), BAD);
        int[] six = {6, 16, 56, 60, 65, 66, 55, 0, 77, 99, 105, 115};
        E.changesNothing("film: ab of six", Scene.FULL, six, (x, v) -> x.film(1, v, 0, 1), BAD);
    }

    private static void filmMany() {
        int[][] asked = {{0, 0, 0}, {0, 1, 1}, {0, 19, 19}, {0, 20, 20}, {1, 20, 20}, {79, 20, 20}, {80, 20, 20},
            {81, 20, 19}, {98, 20, 2}, {99, 20, 1}, {99, 2, 1}, {99, 1, 1}, {99, 0, 0}, {98, 2, 2}};
        for (int[] ask : asked) {
            for (int sheet = 0; sheet < 4; sheet++) {
                int s = sheet;
                String name = "film: from " + ask[0] + " on " + ask[1];
                E.answered(name, Scene.FAMILY, x -> x.film(s, 1, ask[0], ask[1]), ask[2]);
                E.answered(name + ": of so many items", Scene.FAMILY, x -> {
                    x.film(s, 1, ask[0], ask[1]);
                    return x.copy(s, 0, s, 0, 2 * ask[2]);
                }, 2 * ask[2]);
                E.answered(name + ": of no more", Scene.FAMILY, x -> {
                    x.film(s, 1, ask[0], ask[1]);
                    return x.copy(s, 0, s, 0, 2 * ask[2] + 1);
                }, OUTSIDE);
                E.answered(name + ": shorts", Scene.FAMILY, x -> {
                    x.film(s, 1, ask[0], ask[1]);
                    return x.heirs(s, 1, 0, 0);
                }, 0);
                E.answered(name + ": all are so", Scene.FAMILY, x -> {
                    x.film(s, 1, ask[0], ask[1]);
                    return x.rows(s, 0, 1, 0);
                }, NONE);
            }
        }
    }

    private static void filmPairs() {
        for (int ab : new int[] {1, 2, 10, 12, 20, 21}) {
            E.answered("film: ab " + ab, Scene.FAMILY, x -> x.film(1, ab, 0, 20), 20);
        }
        // By THE RULE 12 COSTS HEIRS 0 .. 5 so much.
        int[] costs = {5, 6, 8, 3, 10, 10};
        for (int a = 0; a < 6; a++) {
            for (int b = 0; b < 6; b++) {
                int ab = 10 * a + b;
                int both = costs[a] + costs[b];
                if (a != b) {
                    E.answered("film: ab " + ab, Scene.FULL, x -> {
                        x.film(3, ab, 12, 1);
                        // Told of 0 and 1 as one whom it COSTS as much: by a SHEET that is like.
                        Check.sheet(x, 2, 1, 12, both);
                        return 10 * x.rows(2, ab / 10, ab % 10, 0) + x.rows(3, ab / 10, ab % 10, 0);
                    }, -11);
                }
            }
        }
    }

    /** SUM and COSTS, each as MORE of an HEIR who comes of it. */
    private static void filmItems() {
        Setting family = family(own(2), own(2));
        int[] items = {0, 0, 1, NONE, 2, 2, 3, NONE, 4, 4, 5, NONE};
        for (int from = 0; from < 3; from++) {
            int first = from;
            for (int i = 0; i < items.length - 2 * from; i++) {
                int at = i;
                long got = ask(Scene.NEW, family, x -> {
                    x.film(3, 1, first, 6 - first);
                    x.sheet(2, 1, 2);
                    x.copy(3, at, 2, 1, 1);
                    return x.heirs(2, 1, 0, 1) == 1 ? x.told(2, 1) : NONE;
                });
                E.due("film: from " + from + ": item " + i, got, items[2 * from + i]);
            }
        }
        long stays = ask(Scene.NEW, family, x -> {
            x.film(3, 1, 0, 3);
            x.set(2, 0, 0);
            return x.rows(3, 0, 1, 0);
        });
        E.due("film: a SHEET stays as it was told", stays, 2);
        long most = ask(Scene.NEW, x -> {
            Check.heir(x, 5, 9, 1);
            Check.heir(x, 2, 9, 1);
            x.force(Check.text(x, "says 99;meant 1;worth 1;"));
        }, x -> {
            x.film(3, 1, 80, 20);
            return x.rows(3, 0, 1, 0);
        });
        E.due("film: the most that it COSTS is no more than a short", most, NONE);
    }

    // ---- 20: drawn; 21: chance

    private static long drawnByHand(Setting setting, int seed) {
        Counted x = new Counted();
        setting.of(x);
        int s = seed;
        for (int heir = 0; heir < 2; heir++) {
            int z = s * 1103515245 + 12345;
            int y = z * 1103515245 + 12345;
            x.set(2, heir, ((y >>> 9) & 1023) << 10 | (z >>> 9) & 1023);
            s = y;
        }
        x.force(0);
        return 99 - x.barred(0, 1, 0);
    }

    private static void drawn() {
        int[] none = {0, 1, -1};
        E.changesNothing("drawn: no HEIRS", Scene.NEW, none, (x, v) -> x.drawn(v), STATE);
        E.changesNothing("drawn: one HEIR", Scene.NEW, family(own(1)), x -> x.drawn(1), STATE);
        Setting[] twos = {family(own(), own()), family(own(1), own(1), own(2), own(3), own(4), own(5)), x -> {
            x.heir(3, 1);
            x.heir(5, 2);
        }, x -> {
            x.heir(4, 9);
            x.heir(2, 0);
        }};
        for (Setting two : twos) {
            for (int seed : SEEDS) {
                E.changesNothing("drawn: by " + seed, Scene.NEW, two, x -> x.drawn(seed), drawnByHand(two, seed));
            }
        }
        E.changesNothing("drawn: meant or not", Scene.NEW, x -> {
            family(own(), own()).of(x);
            x.force(Check.text(x, "says 1;meant 0;worth 1;"));
        }, x -> x.drawn(5), drawnByHand(family(own(), own()), 5));
        E.changesNothing("drawn: of one of two who went", Scene.FULL, x -> x.back(), x -> x.drawn(5), drawnByHand(x -> {
            x.heir(0, 1);
            x.heir(1, 2);
        }, 5));
    }

    private static void chanceNo() {
        int[] no = {0, -1, 21, Integer.MIN_VALUE, Integer.MAX_VALUE};
        for (int part = 0; part < 2; part++) {
            int p = part;
            E.changesNothing("chance: n 1 .. 20", Scene.FAMILY, no, (x, v) -> x.chance(1, v, p), NO);
            E.changesNothing("chance: no HEIRS", Scene.NEW, x -> x.chance(1, 1, p), NO);
            E.changesNothing("chance: one HEIR", Scene.NEW, family(own(1)), x -> x.chance(1, 1, p), NO);
        }
        E.changesNothing("chance: no such part", Scene.FAMILY, whats(0, 1), (x, v) -> x.chance(1, 1, v), NO);
    }

    private static void chanceOf(String sentence, Setting setting, int seed, int n, int above, int below) {
        E.changesNothing("chance: " + sentence + ": above", Scene.NEW, setting, x -> x.chance(seed, n, 0), above);
        E.changesNothing("chance: " + sentence + ": below", Scene.NEW, setting, x -> x.chance(seed, n, 1), below);
    }

    private static void chance() {
        Setting none = family(own(), own());
        Setting all = family(own(1), own(1));
        for (int seed : SEEDS) {
            chanceOf("n 1, always", none, seed, 1, drawnByHand(none, seed) > 0 ? 1 : 0, 1);
            chanceOf("n 1, never", all, seed, 1, 0, 1);
            chanceOf("n 20, never: lowest terms", all, seed, 20, 0, 1);
        }
        // As many as now are not more; one less now, and they are.
        for (int seed : new int[] {5, 77, 1000}) {
            int now = (int) drawnByHand(none, seed);
            Setting like = x -> {
                none.of(x);
                int z = seed * 1103515245 + 12345;
                int y = z * 1103515245 + 12345;
                x.set(2, 0, ((y >>> 9) & 1023) << 10 | (z >>> 9) & 1023);
                z = y * 1103515245 + 12345;
                y = z * 1103515245 + 12345;
                x.set(2, 1, ((y >>> 9) & 1023) << 10 | (z >>> 9) & 1023);
            };
            E.due("drawn as now", ask(Scene.NEW, like, x -> 99 - x.barred(0, 1, 0)), now);
            chanceOf("not more than now", like, seed, 1, 0, 1);
        }
        seedsInARow(family(own(4, 9), own(4, 9)));
        seedsInARow(x -> {
            Check.heir(x, 4, 9, 18);
            Check.heir(x, 0, 0, 9);
            Check.heir(x, 1, 0, 1);
        });
        seedsInARow(x -> {
            Check.heir(x, 5, 0, 25);
            Check.heir(x, 3, 0, 22, 30);
        });
    }

    /** n seeds, each 1 more, also behind the greatest int. */
    private static void seedsInARow(Setting some) {
        long now = ask(Scene.NEW, some, x -> 99 - x.barred(0, 1, 0));
        for (int seed : SEEDS) {
            int above = 0;
            for (int n = 1; n <= 20; n++) {
                above += drawnByHand(some, seed + n - 1) > now ? 1 : 0;
                int measure = n;
                while (n % measure != 0 || above % measure != 0) {
                    measure--;
                }
                chanceOf("in " + n, some, seed, n, above / measure, n / measure);
            }
        }
    }

    // ---- 22: image; 23: back

    private static void image() {
        E.answered("image: of none", Scene.NEW, x -> x.image(), 0);
        E.answered("image: of three", Scene.FAMILY, x -> x.image(), 3);
        E.answered("image: of six", Scene.FULL, x -> x.image(), 6);
        E.answered("image: of none: there is one then", Scene.NEW, x -> {
            x.image();
            return x.back();
        }, 0);
        E.answered("image: in place of the one before", Scene.FULL, x -> {
            x.image();
            x.set(1, 5, 0);
            return 10 * x.back() + x.told(5, 1);
        }, 66);
    }

    private static void back() {
        E.changesNothing("back: there is none", Scene.NEW, x -> x.back(), STATE);
        E.changesNothing("back: there is none, though there are HEIRS", Scene.NEW, family(own(1), own(2)), x -> x.back(),
            STATE);
        E.answered("back: how many HEIRS", Scene.FAMILY, x -> x.back(), 1);
        E.answered("back: how many HEIRS", Scene.FULL, x -> x.back(), 2);
        E.answered("back: HEIRS that came since go", Scene.FULL, x -> {
            x.back();
            return x.count(0);
        }, 2);
        for (int heir = 2; heir < 6; heir++) {
            int h = heir;
            E.answered("back: HEIRS that came since go", Scene.FULL, x -> {
                x.back();
                return x.told(h, 1);
            }, BAD);
        }
        E.answered("back: it stays", Scene.FULL, x -> {
            x.back();
            x.set(1, 1, 9);
            x.heir(0, 0);
            return 10 * x.back() + x.told(1, 1);
        }, 22);
        E.answered("back: to none", Scene.NEW, x -> {
            x.image();
            family(own(1), own(1), own(1), own(1), own(1), own(1)).of(x);
            return 10 * x.back() + x.count(0) + x.count(4);
        }, 0);
        E.answered("back: none came since, none goes", Scene.FULL, x -> {
            x.image();
            return x.back();
        }, 6);
    }

    private static void backKeeps() {
        Call[] asked = {x -> x.told(0, 0), x -> x.told(0, 1), x -> x.told(0, 2), x -> x.count(3), x -> x.told(0, 3),
            x -> x.count(1), x -> x.count(2), x -> x.copy(1, 0, 1, 0, 6), x -> x.heirs(1, 1, 1, 2), x -> x.text()};
        // THE DAY, MORE, OWN, THE RULE as they were; KIND, TEXTS, THE TAPE, SHEETS as they are.
        long[] want = {10, 3, Check.bits(3, 5), 0, 1, 2, 23, 6, 1, 2};
        for (int i = 0; i < asked.length; i++) {
            int at = i;
            E.answered("back: what it keeps, and what not: " + i, Scene.FAMILY, x -> {
                x.back();
                return asked[at].on(x);
            }, want[i]);
        }
        E.answered("back: also OWN that was given away", Scene.FAMILY, x -> {
            x.image();
            x.give(0, 1, 3);
            x.back();
            return (long) x.told(0, 2) << 30 | x.told(1, 2);
        }, (long) Check.bits(3, 5, 30) << 30 | Check.bits(5, 6, 8, 10));
        E.answered("back: of all HEIRS, of the sixth, too", Scene.FULL, x -> {
            x.image();
            x.set(1, 5, 0);
            x.set(2, 5, 0);
            x.back();
            return 100 * x.told(5, 4) + x.told(5, 1);
        }, 206);
        E.answered("back: THE RULE that was, though not TEXT 0", Scene.FULL, x -> {
            x.image();
            x.force(2);
            x.back();
            return x.count(3);
        }, 5);
        E.answered("back: THE RULE that was, not one that came since", Scene.FAMILY, x -> {
            x.force(x.text());
            x.back();
            return 10 * x.count(3) + x.count(1);
        }, 3);
    }

    // ---- 24: count

    private static void count() {
        E.changesNothing("count: no such what", Scene.NEW, whats(0, 4), (x, v) -> x.count(v), BAD);
        E.changesNothing("count: no such what", Scene.FULL, whats(0, 4), (x, v) -> x.count(v), BAD);
        int[] none = {0, 1, 0, 0, 0};
        int[] some = {3, 2, 23, 1, 8};
        int[] most = {6, 6, 160, 5, 12};
        for (int what = 0; what < 5; what++) {
            int w = what;
            E.changesNothing("count: of none: " + what, Scene.NEW, x -> x.count(w), none[what]);
            E.changesNothing("count: of some: " + what, Scene.FAMILY, x -> x.count(w), some[what]);
            E.changesNothing("count: of the most: " + what, Scene.FULL, x -> x.count(w), most[what]);
        }
        E.answered("count: all NUMBERS of six, together", Scene.FULL, x -> {
            for (int heir = 0; heir < 6; heir++) {
                x.set(2, heir, ALL);
            }
            return x.count(4);
        }, 180);
        E.answered("count: OWN of those who went is not there", Scene.FULL, x -> {
            x.back();
            return x.count(4);
        }, 4);
    }
}
