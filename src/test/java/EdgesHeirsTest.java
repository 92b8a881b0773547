import java.util.List;

/** The edges of promises 1 to 5: a new object, set, heir, give, told. */
public final class EdgesHeirsTest extends Edges {
    private static final Edges E = new Edges();
    private static final int ALL = (1 << 30) - 1;
    private static final int[] OUTSIDE_DAY = {-1, 100, Integer.MIN_VALUE, Integer.MAX_VALUE};
    private static final int[] OUTSIDE_OWN = {-1, ALL + 1, Integer.MIN_VALUE, Integer.MAX_VALUE};

    public static void main(String[] args) {
        newObject();
        newRule();
        newShares();
        setDay();
        setMore();
        setOwn();
        heir();
        heirFull();
        heirHasNoneOwn();
        giveBad();
        giveState();
        giveTruly();
        told();
        toldEmptyAndFull();
        E.close();
    }

    // ---- 1: a new object

    private static void newObject() {
        E.answered("1: no HEIRS", Scene.NEW, x -> x.count(0), 0);
        for (int what = 1; what < 6; what++) {
            int w = what;
            E.answered("1: no HEIR 0", Scene.NEW, x -> x.told(0, w), BAD);
        }
        E.answered("1: THE DAY is 0 at first", Scene.NEW, x -> x.told(0, 0), 0);
        E.answered("1: OWN of nobody", Scene.NEW, x -> x.count(4), 0);
        E.answered("1: THE TAPE is empty", Scene.NEW, x -> x.count(2), 0);
        E.answered("1: THE TAPE is empty: the first byte", Scene.NEW, x -> x.feed(0), 1);
        E.answered("1: no IMAGE", Scene.NEW, x -> x.back(), STATE);
        for (int sheet = 0; sheet < 4; sheet++) {
            int s = sheet;
            E.answered("1: all SHEETS are missing", Scene.NEW, x -> x.cell(s, 0, 0), NOTHING);
            E.answered("1: all SHEETS are missing", Scene.NEW, x -> x.heirs(s, 0, 0, 0), NOTHING);
        }
    }

    private static void newRule() {
        E.answered("1: TEXT 0 alone", Scene.NEW, x -> x.count(1), 1);
        E.answered("1: TEXT 0 is THE RULE", Scene.NEW, x -> x.count(3), 0);
        int[][] asked = {{1, 1, 1}, {30, 1, 1}, {0, 2, 1}, {99, 2, 1}, {0, 3, 0}, {1, 3, 1}, {99, 3, 99}};
        for (int[] ask : asked) {
            E.answered("TEXT 0: says 1 ; meant 1 ; worth n ;", Scene.NEW, x -> {
                x.heir(0, 0);
                return x.says(0, ask[0], ask[1]);
            }, ask[2]);
        }
    }

    private static void newShares() {
        List<Long> before = Scene.seen(new Counted());
        Counted early = new Counted();
        Scene.seen(Scene.FULL.make());
        E.due("1: a new object has nothing of others", Scene.seen(new Counted()).equals(before) ? 1 : 0, 1);
        E.due("1: others change nothing of it", Scene.seen(early).equals(before) ? 1 : 0, 1);
    }

    // ---- 2: set

    private static void setDay() {
        for (int day : new int[] {0, 1, 98, 99}) {
            E.answered("set: THE DAY: what it was", Scene.FAMILY, x -> x.set(0, 0, day), 40);
            E.answered("set: THE DAY becomes v", Scene.FAMILY, x -> {
                x.set(0, 0, day);
                return x.told(0, 0);
            }, day);
        }
        E.changesNothing("set: THE DAY 0 .. 99", Scene.FAMILY, OUTSIDE_DAY, (x, v) -> x.set(0, 0, v), BAD);
        E.changesNothing("set: THE DAY 0 .. 99", Scene.NEW, OUTSIDE_DAY, (x, v) -> x.set(0, 0, v), BAD);
        for (int of : NO_HEIR) {
            E.answered("set: of does not matter", Scene.FAMILY, x -> x.set(0, of, 7), 40);
            E.answered("set: of does not matter", Scene.FAMILY, x -> x.set(0, of, 7) + x.told(0, 0), 47);
        }
        E.answered("set: THE DAY of no HEIRS", Scene.NEW, x -> x.set(0, 0, 99), 0);
        E.changesNothing("set: what 0 .. 2", Scene.FAMILY, whats(0, 2), (x, v) -> x.set(v, 0, 1), BAD);
    }

    private static void setMore() {
        for (int more : new int[] {0, 1, 8, 9}) {
            E.answered("set: MORE: what it was", Scene.FAMILY, x -> x.set(1, 0, more), 4);
            E.answered("set: MORE becomes v", Scene.FAMILY, x -> {
                x.set(1, 2, more);
                return 100 * x.told(0, 1) + 10 * x.told(1, 1) + x.told(2, 1);
            }, 400 + more);
        }
        E.changesNothing("set: MORE 0 .. 9", Scene.FAMILY, NO_MORE, (x, v) -> x.set(1, 2, v), BAD);
        E.changesNothing("set: MORE of no HEIR", Scene.FAMILY, NO_HEIR, (x, v) -> x.set(1, v, 1), BAD);
        E.changesNothing("set: MORE of no HEIR", Scene.NEW, x -> x.set(1, 0, 1), BAD);
        E.answered("set: MORE of the first", Scene.FULL, x -> x.set(1, 0, 9), 1);
        E.answered("set: MORE of the sixth", Scene.FULL, x -> x.set(1, 5, 9), 6);
        E.changesNothing("set: MORE of a seventh", Scene.FULL, x -> x.set(1, 6, 9), BAD);
    }

    private static void setOwn() {
        for (int own : new int[] {0, 1, 1 << 29, ALL - 1, ALL}) {
            E.answered("set: OWN: what it was", Scene.FAMILY, x -> x.set(2, 0, own), Check.bits(3, 5, 30));
            E.answered("set: OWN becomes v", Scene.FAMILY, x -> {
                x.set(2, 2, own);
                return x.told(2, 2);
            }, own);
            E.answered("set: OWN of others stays", Scene.FAMILY, x -> {
                x.set(2, 1, own);
                return (long) x.told(0, 2) << 30 | x.told(2, 2);
            }, (long) Check.bits(3, 5, 30) << 30 | Check.bits(12));
        }
        E.changesNothing("set: OWN bits 0 .. 29", Scene.FAMILY, OUTSIDE_OWN, (x, v) -> x.set(2, 1, v), BAD);
        E.changesNothing("set: OWN of no HEIR", Scene.FAMILY, NO_HEIR, (x, v) -> x.set(2, v, 1), BAD);
        E.changesNothing("set: OWN of no HEIR", Scene.NEW, x -> x.set(2, 0, 1), BAD);
        E.answered("set: OWN of the sixth", Scene.FULL, x -> x.set(2, 5, ALL), Check.bits(6, 12));
        E.changesNothing("set: OWN of a seventh", Scene.FULL, x -> x.set(2, 6, 1), BAD);
    }

    // ---- 3: heir

    private static void heir() {
        for (int kind : new int[] {0, 5}) {
            E.answered("heir: KINDS 0 .. 5", Scene.FAMILY, x -> x.heir(kind, 1), 3);
            E.answered("heir: KINDS 0 .. 5", Scene.FAMILY, x -> x.heir(kind, 1) + 10 * x.told(3, 3), 3 + 10 * kind);
        }
        E.changesNothing("heir: KINDS 0 .. 5", Scene.FAMILY, NO_KIND, (x, v) -> x.heir(v, 1), BAD);
        for (int more : new int[] {0, 9}) {
            E.answered("heir: MORE 0 .. 9", Scene.FAMILY, x -> x.heir(1, more), 3);
            E.answered("heir: MORE 0 .. 9", Scene.FAMILY, x -> x.heir(1, more) + 10 * x.told(3, 1), 3 + 10 * more);
        }
        E.changesNothing("heir: MORE 0 .. 9", Scene.FAMILY, NO_MORE, (x, v) -> x.heir(1, v), BAD);
        E.answered("heir: numbered from 0", Scene.NEW, x -> x.heir(0, 0), 0);
        E.answered("heir: how many then", Scene.FAMILY, x -> x.heir(0, 0) + 10 * x.count(0), 43);
    }

    private static void heirFull() {
        E.answered("heir: 6 at most: the sixth", Scene.FAMILY, x -> {
            x.heir(0, 0);
            x.heir(0, 0);
            return x.heir(5, 9);
        }, 5);
        E.changesNothing("heir: 6 at most: a seventh", Scene.FULL, x -> x.heir(0, 0), FULL);
        E.changesNothing("heir: BAD ahead of FULL", Scene.FULL, NO_KIND, (x, v) -> x.heir(v, 0), BAD);
        E.changesNothing("heir: BAD ahead of FULL", Scene.FULL, NO_MORE, (x, v) -> x.heir(0, v), BAD);
        E.answered("heir: room again, four of six have gone", Scene.FULL, x -> {
            x.back();
            return x.heir(0, 0);
        }, 2);
    }

    private static void heirHasNoneOwn() {
        E.answered("heir: OWN: none as one comes", Scene.NEW, x -> {
            x.heir(0, 9);
            return x.told(0, 2);
        }, 0);
        E.answered("heir: OWN: none as one comes for another who went", Scene.FULL, x -> {
            x.back();
            x.heir(3, 9);
            return x.told(2, 2);
        }, 0);
        E.answered("heir: KIND, MORE of one who comes for another", Scene.FULL, x -> {
            x.back();
            x.heir(3, 9);
            return 10 * x.told(2, 3) + x.told(2, 1);
        }, 39);
    }

    // ---- 4: give; HEIR 0 has 3, 5, 30, HEIR 1 has 5, 6, 8, 10, HEIR 2 has 12

    private static void giveBad() {
        E.changesNothing("give: no NUMBER", Scene.FAMILY, NO_NUMBER, (x, v) -> x.give(0, 1, v), BAD);
        E.changesNothing("give: by no HEIR", Scene.FAMILY, NO_HEIR, (x, v) -> x.give(v, 1, 3), BAD);
        E.changesNothing("give: to no HEIR", Scene.FAMILY, NO_HEIR, (x, v) -> x.give(0, v, 3), BAD);
        E.changesNothing("give: one and the same", Scene.FAMILY, x -> x.give(0, 0, 3), BAD);
        E.changesNothing("give: one and the same", Scene.FAMILY, x -> x.give(2, 2, 12), BAD);
        E.changesNothing("give: BAD ahead of STATE", Scene.FAMILY, x -> x.give(0, 0, 7), BAD);
        E.changesNothing("give: nobody there", Scene.NEW, x -> x.give(0, 1, 1), BAD);
    }

    private static void giveState() {
        E.changesNothing("give: it isn't the one's OWN", Scene.FAMILY, x -> x.give(0, 1, 7), STATE);
        E.changesNothing("give: can be said, isn't OWN", Scene.FAMILY, x -> x.give(0, 2, 8), STATE);
        E.changesNothing("give: the other one's already", Scene.FAMILY, x -> x.give(0, 1, 5), STATE);
        E.changesNothing("give: the other one's alone", Scene.FAMILY, x -> x.give(0, 1, 6), STATE);
        E.changesNothing("give: not OWN, NUMBER 1", Scene.FAMILY, x -> x.give(0, 1, 1), STATE);
        E.changesNothing("give: not OWN, NUMBER 30", Scene.FAMILY, x -> x.give(1, 0, 30), STATE);
    }

    private static void giveTruly() {
        E.answered("give: NUMBER 30", Scene.FAMILY, x -> x.give(0, 1, 30), 2);
        E.answered("give: NUMBER 1", Scene.FAMILY, x -> {
            x.set(2, 2, Check.bits(1, 2, 3));
            return x.give(2, 0, 1);
        }, 2);
        E.answered("give: the one has it no more", Scene.FAMILY, x -> {
            x.give(0, 1, 30);
            return x.told(0, 2);
        }, Check.bits(3, 5));
        E.answered("give: the other one has it", Scene.FAMILY, x -> {
            x.give(0, 1, 30);
            return x.told(1, 2);
        }, Check.bits(5, 6, 8, 10, 30));
        E.answered("give: others stay", Scene.FAMILY, x -> {
            x.give(0, 1, 30);
            return x.told(2, 2);
        }, Check.bits(12));
        E.answered("give: one's last", Scene.FAMILY, x -> x.give(2, 0, 12), 0);
        E.answered("give: what the other one can say, but has not", Scene.FAMILY, x -> x.give(1, 0, 8), 3);
        E.answered("give: by the first to the sixth", Scene.FULL, x -> x.give(0, 5, 1), 1);
        E.answered("give: by the sixth to the first", Scene.FULL, x -> x.give(5, 0, 6), 1);
    }

    // ---- 5: told

    private static void told() {
        int[] first = {40, 4, Check.bits(3, 5, 30), 1, 3, Check.bits(3, 5, 6, 8, 10, 30)};
        int[] last = {40, 7, Check.bits(12), 4, 1, Check.bits(6, 7, 12)};
        for (int what = 0; what < 6; what++) {
            int w = what;
            E.changesNothing("told: what 0 .. 5 of the first", Scene.FAMILY, x -> x.told(0, w), first[w]);
            E.changesNothing("told: what 0 .. 5 of the last", Scene.FAMILY, x -> x.told(2, w), last[w]);
            if (what > 0) {
                E.changesNothing("told: no HEIR", Scene.FAMILY, NO_HEIR, (x, v) -> x.told(v, w), BAD);
            }
        }
        E.changesNothing("told: no such what", Scene.FAMILY, whats(0, 5), (x, v) -> x.told(0, v), BAD);
        E.changesNothing("told: of does not matter", Scene.FAMILY, NO_HEIR, (x, v) -> x.told(v, 0), 40);
        E.changesNothing("told: the sixth's KIND", Scene.FULL, x -> x.told(5, 3), 5);
        E.changesNothing("told: no seventh", Scene.FULL, x -> x.told(6, 3), BAD);
    }

    private static void toldEmptyAndFull() {
        int[] none = {9, 0, 0, 0, 0};
        int[] all = {0, ALL, 0, 30, ALL};
        for (int what = 1; what < 6; what++) {
            int w = what;
            E.answered("told: of one who has none", Scene.NEW, x -> {
                x.heir(0, 9);
                return x.told(0, w);
            }, none[w - 1]);
            E.answered("told: of one who has all", Scene.NEW, x -> {
                x.heir(0, 0);
                x.set(2, 0, ALL);
                return x.told(0, w);
            }, all[w - 1]);
        }
    }
}
