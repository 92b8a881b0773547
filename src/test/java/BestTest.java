/** Promises 15 to 17: leave, buy, pawn. */
public final class BestTest {
    private static final Check CHECK = new Check();

    public static void main(String[] args) {
        leave();
        leaveByRule();
        buy();
        pawn();
        CHECK.close();
    }

    private static void leave() {
        Counted x = new Counted();
        Check.heir(x, 0, 0, 1, 2);
        CHECK.due("nobody to leave to", x.leave(0, 0), -1);
        CHECK.due("no worth", x.leave(0, 1), -1);
        Check.heir(x, 0, 0, 7);
        CHECK.due("the only one", x.leave(0, 0), 1);
        CHECK.due("nobody left to pay", x.leave(0, 1), 0);
        Check.heir(x, 0, 0, 2, 7);
        // Left to 1: 1 and 2 have 2 and 7, only 1, 3, 5 are barred; left to 2: 1 and 2 have 7 alone.
        CHECK.due("to the one that has 2 then", x.leave(0, 0), 1);
        CHECK.due("barred are 1, 3, 5", x.leave(0, 1), 9);
        // Left to 0 or 2 by 1: {1, 2, 7} and {2, 7}, or {1, 2} and {2, 7}: 9 against all odd ones.
        CHECK.due("left by 1", x.leave(1, 0), 0);
        CHECK.due("left by 1: worth", x.leave(1, 1), 9);
        CHECK.due("nothing has changed", x.count(4), 5);
        CHECK.due("OWN stays", x.told(1, 2), Check.bits(7));
        // Like ones: the first.
        Check.heir(x, 0, 0);
        x.set(2, 0, 0);
        x.set(2, 1, 0);
        x.set(2, 2, 0);
        CHECK.due("all alike", x.leave(1, 0), 0);
        CHECK.due("all is barred to two", x.leave(1, 1), 2 * 4950);
        CHECK.due("all alike for 0", x.leave(0, 0), 1);
        CHECK.due("no such HEIR", x.leave(4, 0), -2);
        CHECK.due("HEIR below 0", x.leave(-1, 0), -2);
        CHECK.due("no such what", x.leave(0, 2), -2);
        CHECK.due("what below 0", x.leave(0, -1), -2);
    }

    /** MEANT and worth are those of the one to whom it is left, with all that one has then. */
    private static void leaveByRule() {
        Counted x = new Counted();
        Check.heir(x, 0, 0, 1, 2, 3);
        Check.heir(x, 0, 0, 10);
        Check.heir(x, 0, 0, 11);
        Check.text(x, "says 1;meant n=1;worth many+10*heir;");
        x.force(1);
        CHECK.due("to the lesser number", x.leave(0, 0), 1);
        CHECK.due("with four of its own", x.leave(0, 1), 14);
    }

    private static void buy() {
        Counted x = new Counted();
        Check.heir(x, 0, 0, 3);
        Check.heir(x, 0, 0, 2, 3, 5);
        // With 2 it is 1 that's barred, with 5 it is 1, 2, 4, 7.
        CHECK.due("2", x.buy(0, 1, 0), 2);
        CHECK.due("1 is barred", x.buy(0, 1, 1), 1);
        CHECK.due("nothing has changed", x.told(0, 2), Check.bits(3));
        CHECK.due("none is better: the least", x.buy(1, 0, 0), 1);
        CHECK.due("all that 3 does not make", x.buy(1, 0, 1), 66);
        x.set(2, 1, Check.bits(7, 9));
        CHECK.due("7: 1 .. 99 by 7 and 3", x.buy(0, 1, 0), 7);
        CHECK.due("by 7 alone", x.buy(0, 1, 1), 99 - 14);
        x.set(2, 1, Check.bits(30));
        x.set(2, 0, 0);
        CHECK.due("30", x.buy(0, 1, 0), 30);
        CHECK.due("by 30", x.buy(0, 1, 1), 96);
        // ADDING: what is bought makes more.
        Counted y = new Counted();
        Check.heir(y, 1, 0, 1);
        Check.heir(y, 0, 0, 1);
        CHECK.due("nothing is barred with 1", y.buy(0, 1, 1), 0);
        y.set(2, 1, Check.bits(8));
        CHECK.due("4 makes 8", y.buy(0, 1, 0), 4);
        CHECK.due("by 8", y.buy(0, 1, 1), 99 - 12);
        // By a rule by which having more means more.
        Check.text(y, "says 1;meant n<10*many;worth n;");
        y.force(1);
        y.set(2, 1, Check.bits(30));
        CHECK.due("one more would mean more: its own 1", y.buy(0, 1, 0), 1);
        CHECK.due("9 then", y.buy(0, 1, 1), 9);
        CHECK.due("one and the same", y.buy(0, 0, 0), -2);
        CHECK.due("no such", y.buy(0, 2, 0), -2);
        CHECK.due("no such", y.buy(-1, 0, 0), -2);
        CHECK.due("no such what", y.buy(0, 1, 2), -2);
        CHECK.due("what below 0", y.buy(0, 1, -1), -2);
    }

    private static void pawn() {
        Counted x = new Counted();
        Check.heir(x, 0, 0);
        Check.heir(x, 0, 0, 1, 2, 3);
        CHECK.due("none", x.pawn(0, 1, 0), -1);
        CHECK.due("no SUMS", x.pawn(0, 1, 1), -1);
        x.set(2, 0, Check.bits(2, 3, 20));
        CHECK.due("20 loses nothing", x.pawn(0, 1, 0), 20);
        CHECK.due("1 can't be", x.pawn(0, 1, 1), 1);
        x.set(2, 0, Check.bits(2, 3));
        CHECK.due("3: the half stays", x.pawn(0, 1, 0), 3);
        CHECK.due("odd ones", x.pawn(0, 1, 1), 50);
        x.set(2, 0, Check.bits(20, 21, 30));
        CHECK.due("like ones: the least", x.pawn(0, 1, 0), 20);
        CHECK.due("none can be", x.pawn(0, 1, 1), 99);
        Check.text(x, "says 1;meant 0;worth n;");
        x.force(1);
        CHECK.due("meant or not", x.pawn(0, 1, 1), 99);
        CHECK.due("nothing has changed", x.told(0, 2), Check.bits(20, 21, 30));
        x.set(2, 0, Check.bits(2, 30));
        x.set(2, 1, Check.bits(2, 30));
        CHECK.due("30 can go", x.pawn(0, 1, 0), 30);
        x.set(2, 0, Check.bits(1));
        CHECK.due("1 alone", x.pawn(0, 1, 0), 1);
        // A TWIN says 6 by MORE and by 12, and 12 by 24: 12 can go.
        Counted y = new Counted();
        Check.heir(y, 4, 6, 12, 24);
        Check.heir(y, 0, 0, 6, 12);
        CHECK.due("6 and 12 stay", y.pawn(0, 1, 0), 12);
        CHECK.due("all but 16", y.pawn(0, 1, 1), 99 - 16);
        CHECK.due("one and the same", y.pawn(0, 0, 0), -2);
        CHECK.due("no such", y.pawn(0, 2, 0), -2);
        CHECK.due("no such", y.pawn(-1, 0, 0), -2);
        CHECK.due("no such what", y.pawn(0, 1, 2), -2);
        CHECK.due("what below 0", y.pawn(0, 1, -1), -2);
    }
}
