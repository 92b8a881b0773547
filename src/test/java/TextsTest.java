/** Promises 6 to 8: feed, text, force; and what a TEXT's E is. */
public final class TextsTest {
    private static final Check CHECK = new Check();

    public static void main(String[] args) {
        feed();
        text();
        faults();
        nests();
        force();
        values();
        names();
        CHECK.close();
    }

    private static void feed() {
        Counted x = new Counted();
        CHECK.due("feed(0)", x.feed(0), 1);
        CHECK.due("feed(255)", x.feed(255), 2);
        CHECK.due("feed(256)", x.feed(256), -2);
        CHECK.due("feed(-1)", x.feed(-1), -2);
        CHECK.due("refusals change nothing", x.count(2), 2);
        for (int i = 3; i <= 160; i++) {
            CHECK.due("feed " + i, x.feed(32), i);
        }
        CHECK.due("byte 161", x.feed(32), -4);
        CHECK.due("BAD ahead of FULL", x.feed(256), -2);
        CHECK.due("160 stay", x.count(2), 160);
        CHECK.due("a FAULT", x.text(), -100);
        CHECK.due("empties THE TAPE", x.count(2), 0);
        CHECK.due("room again", x.feed(32), 1);
    }

    private static void text() {
        Counted x = new Counted();
        for (int i = 1; i < 6; i++) {
            CHECK.due("TEXT " + i, Check.text(x, "says " + i + ";meant 1;worth n;"), i);
            CHECK.due("TEXTS", x.count(1), i + 1);
            CHECK.due("THE TAPE is empty", x.count(2), 0);
        }
        CHECK.due("empty: FULL is ahead of a FAULT", x.text(), -4);
        Check.feed(x, "says 1;");
        CHECK.due("a seventh", x.text(), -4);
        CHECK.due("THE TAPE stays", x.count(2), 7);
        CHECK.due("THE RULE stays", x.count(3), 0);

        // As long as can be.
        StringBuilder longest = new StringBuilder("says 1;meant 1;worth n ");
        while (longest.length() < 159) {
            longest.append("+1");
        }
        Counted y = new Counted();
        CHECK.due("160 bytes", Check.text(y, longest + ";"), 1);
        y.force(1);
        y.heir(0, 0);
        CHECK.due("its worth", y.says(0, 1, 3), 69);
        // One behind another, a FAULT between, keeps none of its room from the next.
        CHECK.due("spoiled at its end", Check.text(y, longest + "n"), -259);
        CHECK.due("160 bytes again", Check.text(y, longest + ";"), 2);
        y.force(2);
        CHECK.due("its worth", y.says(0, 2, 3), 70);
    }

    private static void fault(String text, int place) {
        Counted x = new Counted();
        CHECK.due("text of " + text, Check.text(x, text), -100 - place);
        CHECK.due("no TEXT of " + text, x.count(1), 1);
        CHECK.due("empty after " + text, x.count(2), 0);
    }

    private static void stands(String text) {
        Counted x = new Counted();
        CHECK.due("text of " + text, Check.text(x, text), 1);
    }

    private static void faults() {
        fault("", 0);
        fault("  \n", 3);
        fault("says", 4);
        fault("says 1", 6);
        fault("says 1 ;  ", 10);
        fault("says 1;meant 1;worth 1", 22);
        fault("meant 1;says 1;worth n;", 0);
        fault("says 1;worth 1;meant 1;", 7);
        fault("says;", 4);
        fault("sayss 1;", 0);
        fault("says1;meant1;worthn;", 13);
        stands("says1;meant1;worth n;");
        stands("\n says\n1;meant 1;worth n;\n ");
        fault("says 1;meant 1;worth n;n", 23);
        fault("says 1;meant 1;worth n; ;", 24);
        fault("says 1;meant 1;worth n;\t", 23);
        fault("Says 1;", 0);
        fault("says N;", 5);
        fault("says n / 2;", 7);
        fault("says n > 2;", 7);
        fault("says 12345;", 5);
        fault("says n2;", 6);
        fault("says 2n;", 6);
        fault("says 1 12345;", 7);
        stands("says 9999;meant 0001;worth 0;");
        fault("says x;", 5);
        fault("says nn;", 5);
        fault("says nz;", 5);
        fault("says (x1);meant 1;worth 1;", 6);
        fault("says -x1;meant 1;worth 1;", 6);
        fault("says an;", 5);
        fault("says says;", 5);
        fault("says not;", 8);
        fault("says or;", 5);
        fault("says 1 or;", 9);
        fault("says 1 and;", 10);
        fault("says and 1;", 5);
        fault("says meant;", 5);
        fault("says 1 2;", 7);
        fault("says 1 + ;", 9);
        fault("says + 1;", 5);
        fault("says * 1;", 5);
        fault("says 1 not;", 7);
        fault("says 1 + not 1;", 9);
        fault("says - not 1;", 7);
        fault("says 1 < not 1;", 9);
        fault("says 1 < 2 < 3;", 11);
        fault("says 1 = 2 < 3;", 11);
        stands("says (1 < 2) < 3 ; meant not - 1 = 2 ; worth 1 - - 1 ;");
        fault("says ();", 6);
        fault("says (1;", 7);
        fault("says 1);", 6);
        fault("says 1,2;", 6);
        fault("says " + (char) 233 + ";", 5);
        fault("says " + (char) 0 + ";", 5);
    }

    private static void nests() {
        stands("says (((((1)))));meant 1;worth 1;");
        fault("says ((((((1))))));meant 1;worth 1;", 10);
        stands("says not not not not not 1;meant 1;worth 1;");
        fault("says not not not not not not 1;meant 1;worth 1;", 25);
        stands("says -----1;meant 1;worth 1;");
        fault("says ------1;meant 1;worth 1;", 10);
        stands("says not(-(-1));meant 1;worth 1;");
        fault("says not(-(--1));meant 1;worth 1;", 12);
        fault("says not(-((not 1)));meant 1;worth 1;", 12);
        fault("says not(-(-(1)));meant 1;worth 1;", 12);
        // What has ended is not open any more; a - between TERMS never was.
        stands("says (1)+(1)+(1)+(1)+(1)+(1)-1-1-1-1-1-1-1;meant 1;worth 1;");
        stands("says -1*-1*-1*-1*-1*-1*-(((1)));meant 1;worth 1;");
        stands("says not 1 and not 1 and not 1 and not 1 and not 1 and not 1;meant 1;worth 1;");
        stands("says (((((1-1)))))+((((-1))));meant 1;worth 1;");
        fault("says (((((1--1)))))", 12);
        fault("says not 1+((((1+(1)))))", 17);
    }

    private static void force() {
        Counted x = new Counted();
        x.heir(0, 0);
        CHECK.due("no such TEXT", x.force(1), -2);
        CHECK.due("TEXT below 0", x.force(-1), -2);
        CHECK.due("TEXT 0 anew", x.force(0), 0);
        Check.text(x, "says 7;meant 0;worth 5;");
        CHECK.due("THE RULE stays till then", x.says(0, 30, 1), 1);
        CHECK.due("THE RULE was 0", x.force(1), 0);
        CHECK.due("costs by it", x.says(0, 30, 1), 7);
        CHECK.due("meant by it", x.says(0, 30, 2), 0);
        CHECK.due("worth by it", x.says(0, 30, 3), 5);
        CHECK.due("count(3)", x.count(3), 1);
        CHECK.due("THE RULE was 1", x.force(0), 1);
        CHECK.due("TEXT 0 worth", x.says(0, 30, 3), 30);
        CHECK.due("no such TEXT", x.force(2), -2);
    }

    /** What an E is, by the worth of a SUM 10 on DAY 20. */
    private static void worth(String e, int want) {
        Counted x = new Counted();
        x.set(0, 0, 20);
        x.heir(0, 3);
        x.set(2, 0, Check.bits(10, 11));
        CHECK.due("TEXT of " + e, Check.text(x, "says 1;meant 1;worth " + e + ";"), 1);
        x.force(1);
        CHECK.due(e, x.says(0, 10, 3), want);
    }

    private static void values() {
        worth("1 + 2 * 3", 7);
        worth("(1 + 2) * 3", 9);
        worth("10 - 3 - 2", 5);
        worth("10 - (3 - 2)", 9);
        worth("- 2 * 3 + 10", 4);
        worth("- (2 - 7)", 5);
        worth("2 - - 3", 5);
        worth("98", 98);
        worth("99", 99);
        worth("100", 99);
        worth("- 1", 0);
        worth("1 < 2", 1);
        worth("2 < 2", 0);
        worth("3 < 2", 0);
        worth("2 = 2", 1);
        worth("2 = 3", 0);
        worth("1 + 1 = 2", 1);
        worth("not 0", 1);
        worth("not 7", 0);
        worth("not not 7", 1);
        worth("not 3 = 4", 1);
        worth("not 0 and 0", 0);
        worth("(not 5) + 8", 8);
        worth("7 and 5", 1);
        worth("7 and 0", 0);
        worth("0 or 0", 0);
        worth("0 or 5", 1);
        worth("1 or 0 and 0", 1);
        worth("0 and 0 or 1", 1);
        worth("- 1 and 1", 1);
        worth("9 and 9 and 9", 1);
        worth("0 or 0 or 9", 1);
        worth("256*256*256*256 + 5", 5);
        worth("(4096*4096*128 < 0) * 6", 6);
        worth("(4096*4096*128 - 1 < 0) + 1", 1);
    }

    private static void names() {
        worth("n", 10);
        worth("own", 0);
        worth("more", 3);
        worth("many", 2);
        worth("heir + 4", 4);
        worth("day", 20);
        Counted x = new Counted();
        Check.heir(x, 0, 0);
        Check.heir(x, 0, 5, 3, 9, 20);
        x.set(0, 0, 7);
        Check.text(x, "says own*50+n+heir*10;meant own=0 and n=9;worth heir*20+many+more+day;");
        x.force(1);
        CHECK.due("own of an OWN one", x.says(1, 9, 1), 69);
        CHECK.due("own of another one", x.says(1, 8, 1), 18);
        CHECK.due("own of a SUM", x.says(1, 9, 2), 1);
        CHECK.due("meant of another one", x.says(1, 8, 2), 0);
        CHECK.due("worth", x.says(1, 8, 3), 35);
        CHECK.due("worth of HEIR 0", x.says(0, 8, 3), 7);
    }
}
