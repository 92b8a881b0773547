/** The edges of promises 15 to 17: leave, buy, pawn. */
public final class EdgesBestTest extends Edges {
    private static final Edges E = new Edges();
    private static final int NONE = NumbersInherited.NONE;

    public static void main(String[] args) {
        leaveBad();
        leaveAlone();
        leave();
        leaveByRule();
        buyAndPawnBad();
        buy();
        pawn();
        pawnMeantOrNot();
        E.close();
    }

    private static void both(String sentence, Setting setting, CallWith call, int... want) {
        for (int what = 0; what < 2; what++) {
            int w = what;
            E.changesNothing(sentence + ", what " + what, Scene.NEW, setting, x -> call.on(x, w), want[what]);
        }
    }

    // ---- 15: leave

    private static void leaveBad() {
        for (int what = 0; what < 2; what++) {
            int w = what;
            E.changesNothing("leave: no HEIR", Scene.FAMILY, NO_HEIR, (x, v) -> x.leave(v, w), BAD);
            E.changesNothing("leave: nobody", Scene.NEW, x -> x.leave(0, w), BAD);
            E.changesNothing("leave: no seventh", Scene.FULL, x -> x.leave(6, w), BAD);
        }
        E.changesNothing("leave: no such what", Scene.FAMILY, whats(0, 1), (x, v) -> x.leave(0, v), BAD);
        both("leave: BAD though there is no other one", family(own(1)), (x, what) -> x.leave(1, what), BAD,
            BAD);
        E.changesNothing("leave: no such what though there is no other one", Scene.NEW, family(own(1)),
            x -> x.leave(0, 2), BAD);
    }

    private static void leaveAlone() {
        both("LEAVE: there is no other one", family(own(1)), (x, what) -> x.leave(0, what), NONE, NONE);
        both("LEAVE: there is no other one, nothing to leave", family(own()), (x, what) -> x.leave(0, what), NONE, NONE);
        both("LEAVE: one other, no others to be paid", family(own(1), own(2)), (x, what) -> x.leave(0, what), 1, 0);
        both("LEAVE: one other, no others to be paid", family(own(1), own(2)), (x, what) -> x.leave(1, what), 0, 0);
        both("LEAVE: one other, both have none", family(own(), own()), (x, what) -> x.leave(1, what), 0, 0);
    }

    private static void leave() {
        Setting none = family(own(), own(), own());
        both("LEAVE: of like ones the first", none, (x, what) -> x.leave(0, what), 1, 4950);
        both("LEAVE: of like ones the first", none, (x, what) -> x.leave(1, what), 0, 4950);
        both("LEAVE: of like ones the first", none, (x, what) -> x.leave(2, what), 0, 4950);
        Setting ones = family(own(1), own(1), own(1));
        both("LEAVE: nothing is BARRED", ones, (x, what) -> x.leave(0, what), 1, 0);
        both("LEAVE: nothing is BARRED", ones, (x, what) -> x.leave(2, what), 0, 0);
        // 1 that is left to HEIR 5, who is ADDING, makes 2, which all have but him; else 2s can't be paid to him.
        Setting last = x -> {
            family(own(1), own(2), own(2), own(2), own(2)).of(x);
            x.heir(1, 0);
        };
        both("LEAVE: to the last of six", last, (x, what) -> x.leave(0, what), 5, 4 * 2500);
        Setting first = family(own(), own(3), own(3), own(3), own(3), own(1));
        both("LEAVE: nothing helps but threes", first, (x, what) -> x.leave(5, what), 1, 4950 + 3 * 3267);
        // All OWN ones are left, also with what the other one has.
        Setting all = family(own(1, 2, 30), own(3), own(1, 2, 3, 30));
        both("LEAVE: all OWN NUMBERS", all, (x, what) -> x.leave(0, what), 1, 0);
        both("LEAVE: to one of two, the other one is paid by him", all, (x, what) -> x.leave(1, what), 0, 0);
        both("LEAVE: not to be paid by the HEIR", family(own(1), own(2), own(2)), (x, what) -> x.leave(1, what), 0, 2500);
        E.changesNothing("LEAVE: of FAMILY: THE RULE's worth", Scene.FAMILY, x -> x.leave(2, 1), 18);
    }

    private static void leaveByRule() {
        Setting three = family(own(7, 8), own(9), own(9));
        both("LEAVE: many of all that one has then",
            rule(three, "says 1;meant n=1;worth many*10;"), (x, what) -> x.leave(0, what), 1, 30);
        both("LEAVE: heir is the other one",
            rule(three, "says 1;meant n=1;worth 20-heir;"), (x, what) -> x.leave(0, what), 2, 18);
        both("LEAVE: nothing is meant",
            rule(three, "says 1;meant 0;worth 20-heir;"), (x, what) -> x.leave(0, what), 1, 0);
        both("LEAVE: meant by the other one",
            rule(three, "says 1;meant heir=1;worth 1;"), (x, what) -> x.leave(0, what), 2, 0);
    }

    // ---- 16, 17: buy, pawn

    private static void buyAndPawnBad() {
        int[] all = {0, 1, 2};
        for (int what = 0; what < 2; what++) {
            int w = what;
            E.changesNothing("buy: no HEIR", Scene.FAMILY, NO_HEIR, (x, v) -> x.buy(v, 1, w), BAD);
            E.changesNothing("buy: no other one", Scene.FAMILY, NO_HEIR, (x, v) -> x.buy(1, v, w), BAD);
            E.changesNothing("buy: one and the same", Scene.FAMILY, all, (x, v) -> x.buy(v, v, w), BAD);
            E.changesNothing("buy: nobody", Scene.NEW, x -> x.buy(0, 1, w), BAD);
            E.changesNothing("pawn: no HEIR", Scene.FAMILY, NO_HEIR, (x, v) -> x.pawn(v, 1, w), BAD);
            E.changesNothing("pawn: no other one", Scene.FAMILY, NO_HEIR, (x, v) -> x.pawn(1, v, w), BAD);
            E.changesNothing("pawn: one and the same", Scene.FAMILY, all, (x, v) -> x.pawn(v, v, w), BAD);
            E.changesNothing("pawn: nobody", Scene.NEW, x -> x.pawn(0, 1, w), BAD);
            E.changesNothing("pawn: BAD though there is none to pawn", Scene.NEW, family(own(), own()),
                x -> x.pawn(0, 0, w), BAD);
        }
        E.changesNothing("buy: no such what", Scene.FAMILY, whats(0, 1), (x, v) -> x.buy(0, 1, v), BAD);
        E.changesNothing("pawn: no such what", Scene.FAMILY, whats(0, 1), (x, v) -> x.pawn(0, 1, v), BAD);
    }

    private static void buyTwo(String sentence, Setting setting, int number, int many) {
        both("BUY: " + sentence, setting, (x, what) -> x.buy(0, 1, what), number, many);
    }

    private static void buy() {
        buyTwo("NUMBER 1", family(own(), own(1)), 1, 0);
        buyTwo("NUMBER 30", family(own(), own(30)), 30, 96);
        buyTwo("NUMBER 29", family(own(), own(29)), 29, 96);
        buyTwo("none helps: the least", family(own(), own()), 1, 99);
        buyTwo("all is paid: the least", family(own(1), own(1)), 1, 0);
        buyTwo("one's OWN is bought as well", family(own(1, 2), own(2)), 1, 50);
        buyTwo("of like ones the least", family(own(), own(29, 30)), 29, 96);
        buyTwo("the fewest SUMS", family(own(), own(20, 29, 30)), 20, 95);
        buyTwo("the fewest SUMS, not of the least", family(own(3), own(2, 3, 4)), 2, 1);
        buyTwo("the fewest SUMS, not of the least", family(own(4), own(2, 3, 4)), 3, 3);
        buyTwo("with what one has", family(own(3), own(3, 4, 5, 6)), 4, 3);
        buyTwo("1 beside others", family(own(2, 3), own(1, 2, 3)), 1, 0);
        buyTwo("none is meant", rule(family(own(), own(5)), "says 1;meant 0;worth 1;"), 1, 0);
        buyTwo("but what is meant", rule(family(own(), own(5, 7)), "says 1;meant n=7;worth 1;"), 7, 0);
        buyTwo("meant by the one, not by the other", rule(family(own(), own(5)), "says 1;meant heir;worth 1;"), 1, 0);
        buyTwo("many, were it one's OWN, too", rule(family(own(9), own(5)), "says 1;meant n<many;worth 1;"), 9, 0);
        both("BUY: by the last from the first of six",
            family(own(1), own(2), own(2), own(2), own(2), own(2)), (x, what) -> x.buy(5, 0, what), 1, 0);
        // An ADDING one who has 3 says 8 with 5, so that 14 SUMS are left.
        buyTwo("as of one's KIND", x -> {
            Check.heir(x, 1, 0, 3);
            Check.heir(x, 0, 0, 5, 8);
        }, 5, 14);
        // TWIN 2 says 12, 7, 6, HEIR 1 has 5, 6, 8, 10.
        E.changesNothing("BUY: of like ones the least, by halves", Scene.FAMILY, x -> x.buy(2, 1, 0), 5);
        E.changesNothing("BUY: SUMS 1 .. 49 not by 5, 6", Scene.FAMILY, x -> x.buy(2, 1, 1), 10);
    }

    private static void pawnTwo(String sentence, Setting setting, int number, int many) {
        both("PAWN: " + sentence, setting, (x, what) -> x.pawn(0, 1, what), number, many);
    }

    private static void pawn() {
        pawnTwo("it has none", family(own(), own(1)), NONE, NONE);
        pawnTwo("nobody has any", family(own(), own()), NONE, NONE);
        pawnTwo("1 alone", family(own(1), own(1)), 1, 99);
        pawnTwo("30 alone", family(own(30), own(30)), 30, 99);
        pawnTwo("30, not 1", family(own(1, 30), own(1, 30)), 30, 0);
        pawnTwo("1, not 30", family(own(1, 30), own(30)), 1, 96);
        pawnTwo("of like ones the least", family(own(11, 12, 13), own()), 11, 99);
        pawnTwo("of like ones the least", family(own(1, 11, 12, 13), own(1)), 11, 0);
        pawnTwo("of like ones the least, not the last", family(own(2, 4, 6, 8), own(2, 4, 6, 8)), 4, 50);
        pawnTwo("fewest, the least", family(own(1, 2), own(2)), 1, 50);
        pawnTwo("one that is not OWN can't go", family(own(30), own(2, 30)), 30, 99);
        both("PAWN: by the last to the first of six",
            family(own(2), own(), own(), own(), own(), own(2, 30)), (x, what) -> x.pawn(5, 0, what), 30, 50);
        // FAMILY: ADDING 0 has 3, 5, 30: without 30 nothing is lost.
        E.changesNothing("PAWN: as of one's KIND", Scene.FAMILY, x -> x.pawn(0, 1, 0), 30);
        E.changesNothing("PAWN: SUMS not by 5, 6, 8, 10", Scene.FAMILY, x -> x.pawn(0, 1, 1), 6);
    }

    private static void pawnMeantOrNot() {
        pawnTwo("meant or not", rule(family(own(2, 30), own(2, 30)), "says 1;meant 0;worth 1;"), 30, 50);
        pawnTwo("SUMS 1 .. 99, not 0", rule(family(own(4), own(5)), "says 1;meant n=1;worth 1;"), 4, 99);
        pawnTwo("but for those that are meant", rule(family(own(2, 3), own(2, 3)), "says 1;meant n=3;worth 1;"), 3, 50);
    }
}
