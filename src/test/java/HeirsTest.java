/** Promises 1 to 5: a new object, set, heir, give, told. */
public final class HeirsTest {
    private static final Check CHECK = new Check();
    private static final int ALL = (1 << 30) - 1;

    public static void main(String[] args) {
        newObject();
        set();
        heir();
        give();
        told();
        CHECK.close();
    }

    private static void newObject() {
        Counted x = new Counted();
        CHECK.due("new: HEIRS", x.count(0), 0);
        CHECK.due("new: TEXTS", x.count(1), 1);
        CHECK.due("new: THE TAPE", x.count(2), 0);
        CHECK.due("new: THE RULE", x.count(3), 0);
        CHECK.due("new: OWN", x.count(4), 0);
        CHECK.due("new: THE DAY", x.told(0, 0), 0);
        CHECK.due("new: no IMAGE", x.back(), NumbersInherited.STATE);
        for (int sheet = 0; sheet < 4; sheet++) {
            CHECK.due("new: SHEETS are missing", x.cell(sheet, 0, 0), -11);
        }
        CHECK.due("new: no HEIR 0", x.told(0, 1), NumbersInherited.BAD);
    }

    private static void set() {
        Counted x = new Counted();
        CHECK.due("DAY without HEIRS", x.set(0, 77, 99), 0);
        CHECK.due("DAY was", x.set(0, -5, 3), 99);
        CHECK.due("DAY too great", x.set(0, 0, 100), -2);
        CHECK.due("DAY below 0", x.set(0, 0, -1), -2);
        CHECK.due("DAY stays", x.told(0, 0), 3);
        CHECK.due("DAY 0", x.set(0, 0, 0), 3);
        CHECK.due("DAY is 0", x.told(0, 0), 0);
        CHECK.due("MORE of none", x.set(1, 0, 0), -2);
        x.heir(0, 4);
        CHECK.due("MORE was", x.set(1, 0, 9), 4);
        CHECK.due("MORE too great", x.set(1, 0, 10), -2);
        CHECK.due("MORE below 0", x.set(1, 0, -1), -2);
        CHECK.due("MORE was 9", x.set(1, 0, 0), 9);
        CHECK.due("OWN was", x.set(2, 0, ALL), 0);
        CHECK.due("OWN too great", x.set(2, 0, ALL + 1), -2);
        CHECK.due("OWN below 0", x.set(2, 0, -1), -2);
        CHECK.due("OWN was all", x.set(2, 0, 0), ALL);
        CHECK.due("no such HEIR", x.set(2, 1, 0), -2);
        CHECK.due("HEIR below 0", x.set(1, -1, 0), -2);
        CHECK.due("no such what", x.set(3, 0, 0), -2);
        CHECK.due("what below 0", x.set(-1, 0, 0), -2);
    }

    private static void heir() {
        Counted x = new Counted();
        CHECK.due("KIND too great", x.heir(6, 0), -2);
        CHECK.due("KIND below 0", x.heir(-1, 0), -2);
        CHECK.due("MORE too great", x.heir(0, 10), -2);
        CHECK.due("MORE below 0", x.heir(0, -1), -2);
        for (int kind = 0; kind < 6; kind++) {
            CHECK.due("an HEIR's number", x.heir(kind, kind + 4), kind);
            CHECK.due("its MORE", x.told(kind, 1), kind + 4);
            CHECK.due("its OWN", x.told(kind, 2), 0);
            CHECK.due("its KIND", x.told(kind, 3), kind);
        }
        CHECK.due("a seventh", x.heir(0, 0), -4);
        CHECK.due("a seventh that is BAD", x.heir(6, 0), -2);
        CHECK.due("six", x.count(0), 6);
        // Room that an HEIR had who went is a new one's without his NUMBERS.
        Counted y = new Counted();
        y.image();
        Check.heir(y, 1, 3, 5);
        y.back();
        CHECK.due("another HEIR 0", y.heir(2, 1), 0);
        CHECK.due("has none OWN", y.told(0, 2), 0);
        CHECK.due("is of its KIND", y.told(0, 3), 2);
        CHECK.due("has its MORE", y.told(0, 1), 1);
    }

    private static void give() {
        Counted x = new Counted();
        Check.heir(x, 0, 0, 1, 15, 30);
        Check.heir(x, 1, 0, 15);
        CHECK.due("given", x.give(0, 1, 30), 2);
        CHECK.due("the one's", x.told(0, 2), Check.bits(1, 15));
        CHECK.due("the other's", x.told(1, 2), Check.bits(15, 30));
        CHECK.due("not OWN", x.give(0, 1, 30), -3);
        CHECK.due("the other's already", x.give(0, 1, 15), -3);
        CHECK.due("sayable, not OWN", x.give(1, 0, 29), -3);
        CHECK.due("back", x.give(1, 0, 30), 1);
        CHECK.due("the last", x.give(0, 1, 1), 2);
        CHECK.due("to oneself", x.give(0, 0, 15), -2);
        CHECK.due("no such one", x.give(2, 0, 15), -2);
        CHECK.due("no such other", x.give(0, -1, 15), -2);
        CHECK.due("NUMBER 0", x.give(0, 1, 0), -2);
        CHECK.due("NUMBER 31", x.give(0, 1, 31), -2);
        CHECK.due("NUMBER 33", x.give(0, 1, 33), -2);
        CHECK.due("refusals change nothing", x.told(0, 2), Check.bits(15, 30));
    }

    private static void told() {
        Counted x = new Counted();
        x.set(0, 0, 42);
        CHECK.due("DAY, of whom does not matter", x.told(17, 0), 42);
        Check.heir(x, 3, 7, 3, 10);
        CHECK.due("DAY", x.told(0, 0), 42);
        CHECK.due("MORE", x.told(0, 1), 7);
        CHECK.due("OWN", x.told(0, 2), Check.bits(3, 10));
        CHECK.due("KIND", x.told(0, 3), 3);
        CHECK.due("how many", x.told(0, 4), 2);
        CHECK.due("sayable", x.told(0, 5), Check.bits(3, 6, 7, 10, 13, 20));
        CHECK.due("no such HEIR", x.told(1, 1), -2);
        CHECK.due("HEIR below 0", x.told(-1, 5), -2);
        CHECK.due("no such what", x.told(0, 6), -2);
        CHECK.due("what below 0", x.told(0, -1), -2);
    }
}
