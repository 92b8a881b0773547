/** The edges of promises 6 to 8: feed, text, force; and of what a TEXT may be. */
public final class EdgesTextsTest extends Edges {
    private static final Edges E = new Edges();
    private static final int[] NO_BYTE = {-1, 256, 257, Integer.MIN_VALUE, Integer.MAX_VALUE};
    private static final String GOOD = "says 1;meant 1;worth 1;";

    public static void main(String[] args) {
        feed();
        feedFull();
        text();
        textFull();
        textEmpties();
        faultPlaces();
        faultOfAnyByte();
        tokens();
        words();
        staleTape();
        longTexts();
        grammar();
        open();
        ints();
        force();
        E.close();
    }

    // ---- 6: feed

    private static void feed() {
        for (int letter : new int[] {0, 1, 254, 255}) {
            E.answered("feed: a byte 0 .. 255", Scene.NEW, x -> x.feed(letter), 1);
            E.answered("feed: a byte comes behind THE TAPE", Scene.FAMILY, x -> x.feed(letter), 24);
        }
        E.changesNothing("feed: no byte", Scene.NEW, NO_BYTE, (x, v) -> x.feed(v), BAD);
        E.changesNothing("feed: no byte", Scene.FAMILY, NO_BYTE, (x, v) -> x.feed(v), BAD);
    }

    private static void feedFull() {
        Counted x = new Counted();
        for (int i = 1; i <= 160; i++) {
            E.due("feed: 160 bytes at most", x.feed(i), i);
        }
        E.due("feed: 160 bytes at most: one more", x.feed(32), FULL);
        int[] bytes = {0, 32, 255};
        E.changesNothing("feed: 160 bytes at most: one more", Scene.FULL, bytes, (y, v) -> y.feed(v), FULL);
        E.changesNothing("feed: BAD ahead of FULL", Scene.FULL, NO_BYTE, (y, v) -> y.feed(v), BAD);
        E.due("feed: 160 bytes: a FAULT", x.text(), -100);
        E.due("feed: room again", x.feed(32), 1);
    }

    // ---- 7: text

    private static void text() {
        E.answered("text: its number", Scene.FAMILY, x -> x.text(), 2);
        E.answered("text: the first behind TEXT 0", Scene.NEW, x -> Check.text(x, GOOD), 1);
        E.answered("text: 6 TEXTS at most: the sixth", Scene.NEW, x -> {
            for (int i = 1; i < 5; i++) {
                Check.text(x, GOOD);
            }
            return Check.text(x, GOOD);
        }, 5);
        E.answered("text: it is not THE RULE by that", Scene.FAMILY, x -> {
            x.text();
            return x.count(3);
        }, 1);
    }

    private static void textFull() {
        E.changesNothing("text: no TEXT more has room, THE TAPE stays", Scene.FULL, x -> x.text(), FULL);
        E.answered("text: THE TAPE stays", Scene.FULL, x -> {
            x.text();
            return x.count(2);
        }, 160);
        String[] tapes = {"", ";", GOOD};
        for (String tape : tapes) {
            E.answered("text: FULL is ahead of all", Scene.NEW, x -> {
                for (int i = 1; i < 6; i++) {
                    Check.text(x, GOOD);
                }
                return 1000 * Check.text(x, tape) - x.count(2) - x.count(1);
            }, -4000 - tape.length() - 6);
        }
    }

    private static void textEmpties() {
        E.answered("text: THE TAPE is empty then", Scene.FAMILY, x -> {
            x.text();
            return x.count(2);
        }, 0);
        E.answered("text: THE TAPE is empty then, by a FAULT, too", Scene.FAMILY, x -> {
            x.feed(';');
            x.text();
            return x.count(2);
        }, 0);
        E.answered("text: a FAULT is no TEXT", Scene.FAMILY, x -> {
            x.feed(';');
            x.text();
            return x.count(1);
        }, 2);
        E.answered("text: none behind a FAULT has its number", Scene.FAMILY, x -> {
            x.feed(';');
            x.text();
            return Check.text(x, GOOD);
        }, 2);
        E.answered("text: empty again behind a TEXT: its end is too early", Scene.FAMILY, x -> {
            x.text();
            return x.text();
        }, -100);
    }

    private static void fault(String text, int place) {
        E.answered("text: FAULT of " + text, Scene.NEW, x -> Check.text(x, text), -100 - place);
    }

    private static void stands(String text) {
        E.answered("text: " + text, Scene.NEW, x -> Check.text(x, text), 1);
    }

    private static void faultPlaces() {
        fault("", 0);
        fault(" ", 1);
        fault(";", 0);
        fault(" ;", 1);
        String blank = " ".repeat(160);
        fault(blank, 160);
        fault(blank.substring(1) + ";", 159);
        fault(blank.substring(4) + "says", 160);
        stands(GOOD + blank.substring(GOOD.length()));
        stands(blank.substring(GOOD.length()) + GOOD);
        fault(blank.substring(GOOD.length()) + GOOD.substring(1) + "1", 160 - GOOD.length());
        // Too early, wherever it ends: the size, also of blanks behind.
        String text = "says n + 2 ; meant - ( n ) ; worth not n ;";
        stands(text);
        for (int size = 0; size < text.length(); size++) {
            if (size == 0 || !isLetter(text.charAt(size - 1)) || !isLetter(text.charAt(size))) {
                fault(text.substring(0, size), size);
                fault(text.substring(0, size) + "\n", size + 1);
            }
        }
        // A part of a WORD is no WORD, but for the n of not.
        fault("say", 0);
        fault("says n + 2 ; mean", 13);
        fault("says n + 2 ; meant - ( n ) ; worth no", 35);
    }

    private static boolean isLetter(char c) {
        return c >= 'a' && c <= 'z';
    }

    /** Each byte behind all, ahead of all, and behind a ONE. */
    private static void faultOfAnyByte() {
        for (int b = 0; b < 256; b++) {
            char c = (char) b;
            boolean isBlank = b == 32 || b == 10;
            boolean isPart = isLetter(c) || b >= '0' && b <= '9';
            int size = GOOD.length();
            fault(c + "(" + GOOD, isBlank ? 1 : 0);
            if (isBlank) {
                stands(GOOD + c);
                stands(c + GOOD);
                stands("says 1" + c + ";meant 1;worth 1;");
            } else {
                fault(GOOD + c, size);
                // As long as can be: a digit or a letter ahead of says belongs to it or not.
                fault(c + GOOD, 0);
                boolean isJoint = c == ';' || c == '+' || c == '-' || c == '*' || c == '<' || c == '=';
                if (!isPart) {
                    fault("says 1" + c + ";meant 1;worth 1;", isJoint ? 7 : 6);
                }
            }
        }
    }

    private static void tokens() {
        // WORDS: as long as can be.
        stands("says n;meant own;worth more+many+heir+day;");
        fault("says nn;", 5);
        fault("says ownn;", 5);
        fault("says nown;", 5);
        fault("says n own;", 7);
        fault("says notn;", 5);
        stands("says not n;meant not(n);worth not-n;");
        fault("saysn;", 0);
        stands("says(n);meant-n;worth 1;");
        fault("says 1;meantn;", 7);
        fault("says n and own or more andn;", 23);
        stands("says 1and 2or 3;meant 1;worth 1;");
        for (char c = 'a'; c <= 'z'; c++) {
            fault("says n" + c + ";", 5);
            fault("says " + c + "n;", 5);
            fault("says 1" + c + "1;", 6);
        }
        // NUMBERS: as many digits as stand there, 4 at most.
        for (char c = '0'; c <= '9'; c++) {
            stands("says " + c + ";meant 1" + c + ";worth " + c + "9" + c + c + ";");
            fault("says 123" + c + "9;", 5);
            fault("says n" + c + ";", 6);
        }
        stands("says 0;meant 9999;worth 0000;");
        fault("says 10000;", 5);
        fault("says 00001;", 5);
        fault("says 1+99999;", 7);
        fault("says 12 345;", 8);
        fault("says 0000000000;", 5);
        stands("says 1234+1234;meant 1;worth 1;");
        // Neighbours of what there is: no letters, no digits, no SIGNS.
        for (char c : "AZ`{/:!',.>?@[\\]^_\"#$%&|~\t\r".toCharArray()) {
            fault("says n" + c + "n;", 6);
            fault("says " + c + ";", 5);
        }
        fault("says " + (char) 11 + "1;", 5);
        fault("says " + (char) 160 + "1;", 5);
        fault("says " + (char) ('n' + 128) + ";", 5);
        fault("says " + (char) ('1' + 128) + ";", 5);
    }

    /** A WORD that is neither KEY nor NAME, if but one of its letters is another. */
    private static void words() {
        String[][] standing = {{"", "says", " 1;meant 1;worth 1;"}, {"says 1;", "meant", " 1;worth 1;"},
            {"says 1;meant 1;", "worth", " 1;"}, {"says 1 ", "or", " 2;meant 1;worth 1;"},
            {"says 1 ", "and", " 2;meant 1;worth 1;"}, {"says ", "not", " 2;meant 1;worth 1;"},
            {"says ", "n", ";meant 1;worth 1;"}, {"says ", "own", ";meant 1;worth 1;"},
            {"says ", "more", ";meant 1;worth 1;"}, {"says (", "many", ");meant 1;worth 1;"},
            {"says -", "heir", ";meant 1;worth 1;"}, {"says 1+", "day", ";meant 1;worth 1;"}};
        for (String[] part : standing) {
            stands(part[0] + part[1] + part[2]);
            int place = part[0].length();
            String word = part[1];
            for (int i = 0; i < word.length(); i++) {
                String ahead = word.substring(0, i);
                String behind = word.substring(i + 1);
                fault(part[0] + ahead + (char) (word.charAt(i) ^ 1) + behind + part[2], place);
                fault(part[0] + ahead + "q" + behind + part[2], place);
                // Letters and capitals are not alike: what is ahead of one is a WORD of its own, or none.
                if (i == 0) {
                    fault(part[0] + (char) (word.charAt(i) - 32) + behind + part[2], place);
                }
            }
            fault(part[0] + word + "q" + part[2], place);
            fault(part[0] + "q" + word + part[2], place);
        }
        // Behind what may stand twice.
        fault("says (x);", 6);
        fault("says -x;", 6);
        fault("says not x;", 9);
        fault("says not not x;", 13);
        fault("says 1 and x;", 11);
        fault("says 1*x;", 7);
        fault("says (12345);", 6);
        fault("says -12345;", 6);
        fault("says not 12345;", 9);
    }

    /** What stood on THE TAPE before makes no TOKEN longer. */
    private static void staleTape() {
        E.answered("text: THE TAPE is empty then: a NUMBER at the end", Scene.NEW, x -> {
            Check.text(x, "says 111111111111");
            return Check.text(x, "says 1");
        }, -106);
        E.answered("text: THE TAPE is empty then: 4 digits at the end", Scene.NEW, x -> {
            Check.text(x, "says 111111111111");
            return Check.text(x, "says 1111");
        }, -109);
        E.answered("text: THE TAPE is empty then: a WORD at the end", Scene.NEW, x -> {
            Check.text(x, "says nnnnnnnnnnnn");
            return Check.text(x, "says n");
        }, -106);
        E.answered("text: THE TAPE is empty then: blanks at the end", Scene.NEW, x -> {
            Check.text(x, "says 1         ");
            return Check.text(x, "says 1");
        }, -106);
    }

    /** 160 bytes that stand behind 160 that don't. */
    private static void longTexts() {
        StringBuilder longest = new StringBuilder("says 1;meant 1;worth n ");
        while (longest.length() < 159) {
            longest.append("+1");
        }
        E.answered("text: 160 bytes: 68 ones and the SUM", Scene.NEW, x -> {
            x.heir(0, 0);
            x.force(Check.text(x, longest + ";"));
            return x.says(0, 1, 3);
        }, 69);
        E.answered("text: 160 bytes, behind a FAULT", Scene.NEW, x -> {
            Check.text(x, longest + "n");
            x.heir(0, 0);
            x.force(Check.text(x, longest + ";"));
            return x.says(0, 1, 3);
        }, 69);
        E.answered("text: another one stays as it was", Scene.NEW, x -> {
            x.heir(0, 0);
            x.force(Check.text(x, longest + ";"));
            Check.text(x, "says 9;meant 9;worth 9-9*9;");
            Check.text(x, "says 9;meant 9;worth");
            return x.says(0, 1, 3);
        }, 69);
    }

    private static void grammar() {
        // says E ; meant E ; worth E ; in that order, each once.
        fault("meant 1;worth 1;says 1;", 0);
        fault("says 1;says 1;", 7);
        fault("says 1;worth 1;", 7);
        fault("says 1;meant 1;meant 1;", 15);
        fault("says 1;meant 1;says 1;", 15);
        fault(GOOD + "says 1;", 23);
        fault(GOOD + ";", 23);
        fault("1;meant 1;worth 1;", 0);
        fault("says;", 4);
        fault("says 1 meant 1;", 7);
        // E: AND { or AND }. AND: NOT { and NOT }.
        stands("says 1 or 2 or 3 and 4 and 5 or 6;meant 1;worth 1;");
        fault("says 1 or;", 9);
        fault("says or 1;", 5);
        fault("says 1 or or 1;", 10);
        fault("says 1 and;", 10);
        fault("says and 1;", 5);
        fault("says 1 and or 1;", 11);
        // NOT: not NOT, or SUM, perhaps < or = and a SUM.
        stands("says not not n<1 and not n=2 or not 1;meant 1;worth 1;");
        fault("says not;", 8);
        fault("says 1 not 2;", 7);
        fault("says not not;", 12);
        fault("says 1<2<3;", 8);
        fault("says 1<2=3;", 8);
        fault("says 1=2<3;", 8);
        fault("says 1=2=3;", 8);
        fault("says 1<=2;", 7);
        fault("says 1==2;", 7);
        fault("says <2;", 5);
        fault("says 1<;", 7);
        fault("says 1=;", 7);
        fault("says 1<not 2;", 7);
        stands("says (1<2)<(not 3);meant 1;worth 1;");
        // SUM: TERM { + or - TERM }. TERM: ONE { * ONE }.
        stands("says 1+2-3*4*5-6+7;meant 1;worth 1;");
        fault("says +1;", 5);
        fault("says 1+;", 7);
        fault("says 1++2;", 7);
        fault("says 1-+2;", 7);
        fault("says 1-;", 7);
        stands("says 1--2;meant 1;worth 1;");
        fault("says *1;", 5);
        fault("says 1*;", 7);
        fault("says 1**2;", 7);
        stands("says 1*-2;meant 1;worth 1;");
        fault("says 1+not 2;", 7);
        fault("says 1*not 2;", 7);
        fault("says -not 2;", 6);
        // ONE: a NUMBER, a NAME, - ONE, ( E ).
        fault("says 1 2;", 7);
        fault("says 1 n;", 7);
        fault("says n 1;", 7);
        fault("says 1(2);", 6);
        fault("says (1)(2);", 8);
        fault("says (1)2;", 8);
        fault("says ();", 6);
        fault("says (;", 6);
        fault("says );", 5);
        fault("says (1;", 7);
        fault("says 1);", 6);
        fault("says -;", 6);
        fault("says (not 1 or 2);meant says;", 24);
        stands("says (not 1 or 2);meant (((1)));worth -(1<2);");
    }

    private static void open() {
        String[] openers = {"(", "-", "not "};
        // Any five of them stand, a sixth does not; and not is no ONE, so it stands behind no -.
        for (int code = 0; code < 3 * 3 * 3 * 3 * 3 * 3; code++) {
            StringBuilder five = new StringBuilder("says ");
            StringBuilder ends = new StringBuilder();
            String last = "";
            boolean isE = true;
            int rest = code;
            for (int i = 0; i < 5; i++) {
                String opener = openers[rest % 3];
                isE &= !opener.startsWith("not") || !last.equals("-");
                five.append(opener);
                ends.append(opener.equals("(") ? ")" : "");
                last = opener;
                rest /= 3;
            }
            String sixth = openers[rest % 3];
            if (isE) {
                if (sixth.equals("(")) {
                    stands(five + "n" + ends + ";meant 1;worth 1;");
                }
                fault(five + sixth + "n" + (sixth.equals("(") ? ")" : "") + ends + ";meant 1;worth 1;", five.length());
            }
        }
        // What has ended is open no more.
        stands("says (((((1)))))*(((((2)))));meant 1;worth 1;");
        fault("says (((((1)))))*((((((2))))));", 22);
        stands("says -----1*-----2;meant not not not not not 1 and not not not not not 2;worth 1;");
        stands("says not not not not not 1<2;meant 1;worth 1;");
        fault("says not not not not not 1<-2;", 27);
        stands("says not not not not 1<-2;meant 1;worth 1;");
        fault("says not not not not not 1+(2);", 27);
        stands("says -----1+(((((2)))));meant 1;worth 1;");
        stands("says (((((1)-1)+1)-1)-1)-(1);meant 1;worth 1;");
        // A - between TERMS opens nothing.
        stands("says (((((1-1)))));meant 1;worth 1;");
        fault("says (((((1--1)))));", 12);
        fault("says (((((1*-1)))));", 12);
        fault("says (((((1<-1)))));", 12);
        fault("says (((((1 or not 1)))));", 15);
    }

    /** What worth tells of SUM 10 by an E. */
    private static void worth(String e, int want) {
        E.answered("TEXT: " + e, Scene.NEW, x -> {
            x.heir(0, 3);
            x.set(2, 0, Check.bits(10, 11));
            Check.text(x, "says 1;meant 1;worth " + e + ";");
            x.force(1);
            return x.says(0, 10, 3);
        }, want);
    }

    private static void ints() {
        // 32 bits, wrapping.
        worth("8192*4096*64<0", 1);
        worth("(8192*8192*32-1<0)+2", 2);
        worth("8192*8192*32<0", 1);
        worth("0-8192*8192*32<0", 1);
        worth("-(8192*8192*32)<0", 1);
        worth("-(8192*8192*32)-1<0", 0);
        worth("8192*8192*64+7", 7);
        worth("8192*8192*32-1+8192*8192*32+9", 8);
        // What is not 0 is true; or, and, not, <, = are 1 or 0.
        worth("5 or 0", 1);
        worth("0 or -5", 1);
        worth("0 or 0", 0);
        worth("2 and 4", 1);
        worth("-2 and -4", 1);
        worth("2 and 0", 0);
        worth("0 and 2", 0);
        worth("(not -1)+7", 7);
        worth("(not 0)+7", 8);
        worth("(1<2)*9", 9);
        worth("(2<2)+9", 9);
        worth("(-1<0)*9", 9);
        worth("(2=2)*9", 9);
        worth("(2=1)+9", 9);
        // Of a SUM own is 0, though the NUMBER be OWN.
        worth("own+5", 5);
        worth("5-own", 5);
        worth("n*5", 50);
        worth("more*10+many", 32);
        worth("heir+day+8", 8);
    }

    // ---- 8: force

    private static void force() {
        E.answered("force: TEXT 0: which was", Scene.FAMILY, x -> x.force(0), 1);
        E.answered("force: the last: which was", Scene.FAMILY, x -> x.force(1), 1);
        E.answered("force: it is THE RULE", Scene.FAMILY, x -> {
            x.force(0);
            return x.count(3);
        }, 0);
        E.changesNothing("force: no TEXT", Scene.FAMILY, NO_TEXT, (x, v) -> x.force(v), BAD);
        E.changesNothing("force: no TEXT but TEXT 0", Scene.NEW, x -> x.force(1), BAD);
        E.answered("force: TEXT 0 of a new one", Scene.NEW, x -> x.force(0), 0);
        E.answered("force: the first of six", Scene.FULL, x -> x.force(0), 5);
        E.answered("force: the sixth", Scene.FULL, x -> {
            x.force(0);
            return 10 * x.force(5) + x.count(3);
        }, 5);
        E.changesNothing("force: a seventh", Scene.FULL, x -> x.force(6), BAD);
        E.answered("force: a FAULT is no TEXT", Scene.NEW, x -> {
            Check.text(x, GOOD + "1");
            return x.force(1);
        }, BAD);
        E.answered("force: what it is: the last one's says", Scene.FULL, x -> x.says(0, 1, 1), 5);
        E.answered("force: what it is: another one's says", Scene.FULL, x -> {
            x.force(2);
            return x.says(0, 1, 1);
        }, 2);
    }
}
