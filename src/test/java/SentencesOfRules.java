/** Part 4 of the terms, and the promises 29 to 31 and 33 to 36. */
final class SentencesOfRules extends Sentences {
    private static final String TERMS = "Terms 4";
    private static final String[] WORDS = {"year", "step", "food", "men", "north", "east", "south", "west", "afoot",
        "reach", "trust", "first"};
    private static final String[] OTHER_WORDS = {"go", "walk", "stay", "leave", "pay", "for", "if", "and", "or",
        "paper", "grave", "told", "bought", "nothing", "zz"};

    SentencesOfRules(Doc doc, Check check) {
        super(doc, check);
    }

    @Override
    void testAll() {
        testText();
        testRule();
        testPay();
        testAnyAndAll();
        testOne();
        testWord();
        testNumber();
        testTokens();
        testBlanks();
        testOpen();
        testThirty();
        testFaultPlace();
        testFaultAnyToken();
        testFaultByte();
        testFaultEleventh();
        testFaultLength();
        testFaultThirtyFirst();
        testTaken();
        testLastHolds();
        testBeside();
        testQuarrel();
        testOrders();
        testWouldSteps();
        testFirstOrder();
        testGoAndWalk();
        testNoneAlive();
        testAsked();
        testAskedDirections();
        testSaved();
        testPaid();
        testPaidAsked();
        testPaidFirst();
        testPromisedRules();
        testPromisedRulesRefused();
        testPromisedBeside();
        testPromisedFault();
        testPromisedWould();
        testPromisedTried();
        testPromisedQuarrel();
        testPromisedPaid();
    }

    private void good(String text) {
        IceSearch x = new IceSearch();
        due("RULES \"" + text + "\"", Texts.rules(x, text), 0);
        due("FAULT of \"" + text + "\"", x.fault(), NONE);
    }

    private void bad(String text, int place) {
        IceSearch x = new IceSearch();
        due("RULES \"" + text + "\"", Texts.rules(x, text), NONE);
        due("FAULT of \"" + text + "\"", x.fault(), place);
    }

    /** 20 MEN with FOOD enough at the CELL 34, with RULES. */
    private IceSearch ruled(int last, String text) {
        IceSearch x = new IceSearch();
        x.lost(34, 20, 5000, NONE);
        x.set(last, 50);
        due("RULES \"" + text + "\"", Texts.rules(x, text), 0);
        return x;
    }

    private void holds(String any, boolean want) {
        due("\"" + any + "\" holds", ruled(1, "leave if " + any + ";").would(0, 3) == 1, want);
    }

    private void testText() {
        says(TERMS, "RULES are a text: {RULE [\"if\" ANY] \";\"}.");
        good("");
        good(" ");
        good("stay;");
        good("stay;leave;");
        good("stay if year=0;");
        bad("stay", 4);
        bad(";", 0);
        bad("stay;;", 5);
        bad("stay stay;", 5);
        bad("stay if;", 7);
        bad("stay year=0;", 5);
        bad("stay if year=0 if year=0;", 15);
        bad("if year=0;", 0);
    }

    private void testRule() {
        says(TERMS, "RULE: (\"go\" | \"walk\") (\"north\" | \"east\" | \"south\" | \"west\") | \"stay\" | \"leave\" |");
        for (String word : new String[] {"go", "walk"}) {
            for (String direction : DIRECTIONS) {
                good(word + " " + direction + ";");
            }
            for (String other : OTHER_WORDS) {
                bad(word + " " + other + ";", word.length() + 1);
            }
            bad(word + ";", word.length());
            bad(word + " north east;", word.length() + 7);
            bad(word + " 1;", word.length() + 1);
        }
        good("leave;");
        bad("stay north;", 5);
        bad("leave west;", 6);
        bad("north;", 0);
        for (String word : WORDS) {
            bad(word + ";", 0);
        }
    }

    private void testPay() {
        says(TERMS, "| \"pay\" NUMBER \"for\" (\"paper\" | \"grave\" | \"told\" | \"bought\" | \"nothing\").");
        for (String kind : KINDS) {
            good("pay 1 for " + kind + ";");
            bad("pay 1 for " + kind + " 1;", 11 + kind.length());
        }
        bad("pay;", 3);
        bad("pay for told;", 4);
        bad("pay told;", 4);
        bad("pay 1;", 5);
        bad("pay 1 told;", 6);
        bad("pay 1 2 for told;", 6);
        bad("pay 1 for;", 9);
        bad("pay 1 for 2;", 10);
        for (String word : WORDS) {
            bad("pay 1 for " + word + ";", 10);
        }
    }

    private void testAnyAndAll() {
        says(TERMS, "ANY: ALL {\"or\" ALL}. ALL: ONE {\"and\" ONE}.");
        String[] truth = {"men=1", "men=20"};
        for (int bits = 0; bits < 16; bits++) {
            boolean a = (bits & 1) > 0;
            boolean b = (bits & 2) > 0;
            boolean c = (bits & 4) > 0;
            boolean d = (bits & 8) > 0;
            String ta = truth[bits & 1];
            String tb = truth[bits >> 1 & 1];
            String tc = truth[bits >> 2 & 1];
            String td = truth[bits >> 3];
            holds(ta + " or " + tb + " and " + tc + " or " + td, a || b && c || d);
            holds(ta + " and " + tb + " or " + tc + " and " + td, a && b || c && d);
            holds(ta + " and " + tb + " and " + tc + " and " + td, a && b && c && d);
            holds(ta + " or " + tb + " or " + tc + " or " + td, a || b || c || d);
            holds("(" + ta + " or " + tb + ") and (" + tc + " or " + td + ")", (a || b) && (c || d));
            holds(ta + " and (" + tb + " or not " + tc + ") and not " + td, a && (b || !c) && !d);
        }
        bad("stay if men=1 or;", 16);
        bad("stay if men=1 and;", 17);
        bad("stay if or men=1;", 8);
        bad("stay if and men=1;", 8);
        bad("stay if men=1 or and men=1;", 17);
        bad("stay if men=1 men=1;", 14);
    }

    private void testOne() {
        says(TERMS, "ONE: \"not\" ONE | \"(\" ANY \")\" | WORD (\"<\" | \">\" | \"=\") NUMBER.");
        for (int number : new int[] {0, 19, 20, 21, 99999}) {
            holds("men<" + number, 20 < number);
            holds("men>" + number, 20 > number);
            holds("men=" + number, number == 20);
            holds("not men<" + number, 20 >= number);
            holds("not not men=" + number, number == 20);
            holds("not(men=" + number + ")", number != 20);
            holds("((men=" + number + "))", number == 20);
        }
        for (int number = 0; number <= 12; number++) {
            String text = "leave if step=119 and not year<" + number + ";";
            due(text, ruled(119, text).would(0, 3), number <= 11 ? 1 : 0);
            holds("year<" + number, number > 0);
            holds("year>" + number, false);
            holds("not year=" + number + " or men=1", number > 0);
        }
        holds("not men=1 and men=1", false);
        holds("not men=20 or men=20", true);
        holds("not(men=20 and men=1)", true);
        bad("stay if men;", 11);
        bad("stay if men<;", 12);
        bad("stay if men 1;", 12);
        bad("stay if men<=1;", 12);
        bad("stay if men<men;", 12);
        bad("stay if <1;", 8);
        bad("stay if 1<men;", 8);
        bad("stay if ();", 9);
        bad("stay if (men=1;", 14);
        bad("stay if men=1);", 13);
        bad("stay if not;", 11);
        bad("stay if men not=1;", 12);
        bad("stay if men=1 not men=1;", 14);
        bad("stay if (men=1)(men=1);", 15);
    }

    private void testWord() {
        says(TERMS, "WORD: year, step, food, men, north, east, south, west, afoot, reach, trust, first.");
        for (String word : WORDS) {
            good("stay if " + word + "=0;");
            good("stay if not(" + word + "<1 or " + word + ">1);");
            bad("stay if " + word + "s=0;", 8);
            bad("stay if " + word.substring(1) + "=0;", 8);
            bad("stay if " + word.substring(0, word.length() - 1) + "=0;", 8);
        }
        for (String word : OTHER_WORDS) {
            bad("stay if " + word + "=0;", 8);
        }
    }

    private void testNumber() {
        says(TERMS, "NUMBER: one to five digits.");
        String[] digits = {"0", "9", "10", "999", "1000", "00000", "00009", "10000", "99999"};
        for (String number : digits) {
            IceSearch x = new IceSearch();
            x.find(0, 0, 0, 0, 0, NONE, 0);
            due("pay " + number, Texts.rules(x, "pay " + number + " for paper;"), 0);
            due("paid", x.paid(0, 0), Integer.parseInt(number));
            good("stay if year=" + number + ";");
        }
        for (String number : new String[] {"000000", "000001", "100000", "123456", "99999999999999999999"}) {
            bad("pay " + number + " for paper;", 4);
            bad("stay if year=" + number + ";", 13);
        }
        bad("pay -1 for paper;", 4);
        bad("pay 1.5 for paper;", 5);
        bad("pay 1 0 for paper;", 6);
        IceSearch x = new IceSearch();
        x.lost(0, 1, 99999, NONE);
        x.set(1, 50);
        Texts.rules(x, "leave if food=99998;");
        due("food=99998", x.would(0, 3), 1);
        Texts.rules(x, "leave if food>99997 and food<99999;");
        due("food between", x.would(0, 3), 1);
        Texts.rules(x, "leave if food>99998;");
        due("food above", x.would(0, 3), 0);
    }

    private void testTokens() {
        says(TERMS, "Tokens as long as they go: words of letters a to z, digits, signs;");
        good("stay if(year=0and step>1)or not(men<3);leave;pay 5for told;");
        good("pay 5for told if year=1and year=1or year=1;");
        bad("gonorth;", 0);
        bad("go northif year=0;", 3);
        bad("stayif year=0;", 0);
        good("pay5for told;");
        bad("pay 5 fortold;", 6);
        bad("stay if notyear=0;", 8);
        bad("stay if year=0andyear=0;", 14);
        bad("stay if year=0 andnot year=0;", 15);
        bad("stay if year=12345year;", 18);
        for (int b = 0; b < 256; b++) {
            boolean letter = b >= 'a' && b <= 'z';
            boolean digit = b >= '0' && b <= '9';
            boolean blank = b == 32 || b == 10;
            if (!blank) {
                bad("stay;" + (char) b, 5);
                bad("stay if year=0;" + (char) b + (char) b, 15);
            }
            if (!blank && b != ';') {
                bad("stay" + (char) b + ";", letter ? 0 : 4);
            }
            if (digit) {
                good("stay if year=0" + (char) b + ";");
            } else if (!blank && b != ';') {
                bad("stay if year=0" + (char) b + ";", 14);
            }
        }
    }

    private void testBlanks() {
        says(TERMS, "between them blanks (bytes 32 and 10).");
        good("\n  stay\n\n;  \n");
        good("go\nnorth\nif\nyear\n=\n1\n;");
        good(" ".repeat(700));
        good("\n".repeat(699) + " ");
        for (char c : new char[] {0, 1, 9, 11, 13, 31, 33, 127, 128, 138, 160, 255}) {
            bad("stay" + c + ";", 4);
            bad(c + "stay;", 0);
            bad("stay;" + c, 5);
        }
        bad("st ay;", 0);
        bad("pay 1 2 for told;", 6);
    }

    private void testOpen() {
        says(TERMS, "\"not\" and \"(\": at most 10 open in one another.");
        for (int nots = 0; nots <= 10; nots++) {
            String inside = "not ".repeat(nots) + "(".repeat(10 - nots) + "men=20" + ")".repeat(10 - nots);
            holds(inside, nots % 2 == 0);
            String outside = "(".repeat(10 - nots) + "not ".repeat(nots) + "men=20" + ")".repeat(10 - nots);
            holds(outside + " and " + outside, nots % 2 == 0);
            bad("stay if " + "not ".repeat(nots) + "(".repeat(11 - nots), 18 + 3 * nots);
            bad("stay if " + "(".repeat(11 - nots) + "not ".repeat(nots) + "men=20",
                nots == 0 ? 18 : 8 + 11 - nots + 4 * (nots - 1));
        }
        good("stay if " + "(men=1)and(men=1)or not men=1 and ".repeat(15) + "men=1;");
        good("stay if (((((((((not men=1 and (men=1) or not men=1)))))))));");
        bad("stay if (((((((((not men=1 and (not men=1) or not men=1)))))))));", 32);
        String deep = "men=1 or men=20 and(".repeat(10);
        holds(deep + "men=20" + ")".repeat(10), true);
        holds(deep + "men=1" + ")".repeat(10), false);
    }

    private void testThirty() {
        says(TERMS, "At most 30 statements.");
        for (int many : new int[] {0, 1, 29, 30}) {
            IceSearch x = new IceSearch();
            due(many + " statements", Texts.rules(x, "leave;".repeat(many)), 0);
            due("statements", x.count(7), many);
        }
        bad("leave;".repeat(31), 180);
        bad("leave;".repeat(60), 180);
        IceSearch x = ruled(1, "stay if men=1;".repeat(29) + "leave;");
        due("the 30th is done", x.would(0, 3), 1);
        String text = "leave if men=20 or men=20or men=2;".repeat(20) + "stay if men=20     ;";
        due("all 700 bytes", text.length(), 700);
        due("700 bytes", ruled(1, text).would(0, 3), 1);
    }

    private void testFaultPlace() {
        says(TERMS, "FAULT: the place of the first byte of the first token");
        String[] texts = {"go north ;", "walk west if year = 0 ;", "stay ;", "leave if not men > 1 ;",
            "pay 5 for told if not ( men < 3 or food > 4 ) and step = 9 ;"};
        for (String text : texts) {
            for (int at = 0; at < text.length(); at++) {
                if (at == 0 || text.charAt(at - 1) == ' ') {
                    for (String strange : new String[] {"zz", "goo", "123456", "A", "\u00e9", "{", "\""}) {
                        bad(text.substring(0, at) + strange, at);
                        bad(text.substring(0, at) + strange + " " + text.substring(at), at);
                        bad("stay;\n" + text.substring(0, at) + " " + strange + ";", at + 7);
                    }
                }
            }
            good(text);
        }
        bad("zz yy", 0);
        bad("stay if zz yy zz", 8);
    }

    private void testFaultAnyToken() {
        says(TERMS, "token (or byte that begins none) with which no such text goes on");
        String directions = " north east south west ";
        String words = " year step food men north east south west afoot reach trust first ";
        String[][] table = {
            {"", " go walk stay leave pay "},
            {"stay;", " go walk stay leave pay "},
            {"go", directions}, {"walk", directions},
            {"go north", " if ; "}, {"walk west", " if ; "}, {"stay", " if ; "}, {"leave", " if ; "},
            {"pay", " 7 "}, {"pay 1", " for "}, {"pay 1 for", " paper grave told bought nothing "},
            {"pay 1 for told", " if ; "},
            {"stay if", words + "not ( "}, {"stay if not", words + "not ( "}, {"stay if (", words + "not ( "},
            {"stay if year", " < > = "}, {"stay if year<", " 7 "}, {"stay if year>", " 7 "}, {"stay if year=", " 7 "},
            {"stay if year=1", " and or ; "}, {"stay if not year=1", " and or ; "}, {"stay if (year=1)", " and or ; "},
            {"stay if (year=1", " and or ) "}, {"stay if ((year=1)", " and or ) "},
            {"stay if not(year=1", " and or ) "},
            {"stay if year=1 and", words + "not ( "}, {"stay if year=1 or", words + "not ( "},
            {"stay if (year=1 and", words + "not ( "}, {"stay if (year=1 or", words + "not ( "},
            {"stay if " + "not ".repeat(10), words}, {"stay if " + "(".repeat(10), words},
            {"stay;".repeat(29), " go walk stay leave pay "}, {"stay;".repeat(30), " "}
        };
        String others = "go walk stay leave pay for if and or not paper grave told bought nothing ; ( ) < > = 7";
        String[] tokens = (words + others).trim().split(" ");
        for (String[] row : table) {
            for (String token : tokens) {
                String text = row[0] + " " + token;
                IceSearch x = new IceSearch();
                Texts.rules(x, text);
                boolean goesOn = row[1].contains(" " + token + " ");
                boolean whole = goesOn && token.equals(";");
                int place = text.length() - (goesOn ? 0 : token.length());
                due("FAULT of \"" + text + "\"", x.fault(), whole ? NONE : place);
            }
        }
    }

    private void testFaultByte() {
        says(TERMS, "(or byte that begins none) with which no such text goes on");
        for (int b = 0; b < 256; b++) {
            boolean begins = b >= 'a' && b <= 'z' || b >= '0' && b <= '9' || " \n;()<>=".indexOf(b) >= 0;
            if (!begins) {
                bad("" + (char) b, 0);
                bad("stay if year" + (char) b + "=0;", 12);
                bad("stay if " + (char) b, 8);
                bad("pay 1" + (char) b + " for told;", 5);
            }
        }
    }

    private void testFaultEleventh() {
        says(TERMS, "(the eleventh open, too);");
        bad("stay if " + "(".repeat(11), 18);
        bad("stay if " + "(".repeat(12), 18);
        bad("stay if " + "(".repeat(11) + "men=1" + ")".repeat(11) + ";", 18);
        bad("stay if " + "not ".repeat(11) + "men=1;", 48);
        bad("stay if not " + "(".repeat(9) + "men=1 or not men=1" + ")".repeat(9) + ";", 30);
        bad("stay;stay if " + "(".repeat(11), 23);
        bad("stay if " + "(".repeat(10), 18);
    }

    private void testFaultLength() {
        says(TERMS, "the text's length, if more must come;");
        String[] texts = {"go north ;", "walk west if year = 0 ;", "stay ;", "leave if not men > 1 ;",
            "pay 5 for told if not ( men < 3 or food > 4 ) and step = 9 ;"};
        for (String text : texts) {
            for (int at = 1; at < text.length(); at++) {
                if (text.charAt(at) == ' ') {
                    bad(text.substring(0, at), at);
                    bad(text.substring(0, at) + "  \n", at + 3);
                    bad("stay;" + text.substring(0, at), at + 5);
                }
            }
        }
        bad("stay" + " ".repeat(696), 700);
        IceSearch x = new IceSearch();
        Texts.feed(x, "stay;leave;");
        due("the first nine", x.rules(9), NONE);
        due("they end within a word", x.fault(), 5);
        Texts.feed(x, "stay;leave;");
        due("the first ten", x.rules(10), NONE);
        due("a sign must come", x.fault(), 10);
    }

    private void testFaultThirtyFirst() {
        says(TERMS, "the 31st statement: where it begins.");
        String thirty = "stay;".repeat(30);
        good(thirty + " \n ");
        bad(thirty + "stay;", 150);
        bad(thirty + " \n leave;stay;", 153);
        bad(thirty + "go nowhere;", 150);
        bad(thirty + "pay", 150);
        bad(thirty + " zz", 151);
        bad(thirty + ";", 150);
        bad("stay;".repeat(29) + "stay", 149);
    }

    private void testTaken() {
        says(TERMS, "Taken (up to 8) they're KNOWN from TODAY;");
        IceSearch x = new IceSearch();
        x.lost(34, 20, 5000, NONE);
        x.set(1, 50);
        for (int i = 0; i < 8; i++) {
            x.day(10 * i + 5);
            due("RULES " + i, Texts.rules(x, "go " + DIRECTIONS[i % 4] + ";"), i);
        }
        Texts.feed(x, "stay;");
        due("the ninth", x.rules(5), -3);
        due("RULES", x.count(6), 8);
        int[] cells = {18, 35, 50, 33};
        due("before all", x.would(4, 0), 34);
        for (int i = 0; i < 8; i++) {
            due("by DAY " + (10 * i + 5), x.would(10 * i + 5, 0), cells[i % 4]);
            due("by DAY " + (10 * i + 14), x.would(10 * i + 14, 0), cells[i % 4]);
        }
    }

    private void testLastHolds() {
        says(TERMS, "as KNOWN by a DAY the last one told holds; none: without statements.");
        IceSearch x = new IceSearch();
        x.lost(34, 20, 5000, NONE);
        x.set(1, 50);
        x.find(0, 1, 0, 0, 0, NONE, 0);
        due("none: they stay", x.would(0, 0), 34);
        due("none: nothing is PAID", x.paid(0, 0), 0);
        due("none: no QUARREL", x.quarrel(0, 0), NONE);
        due("none: no statements", x.count(7), 0);
        x.day(2);
        Texts.rules(x, "go east;pay 5 for paper;pay 6 for paper;");
        Texts.rules(x, "go west;pay 7 for paper;");
        due("the last of a DAY: would", x.would(2, 0), 33);
        due("the last of a DAY: paid", x.paid(0, 2), 7);
        due("the last of a DAY: quarrel", x.quarrel(2, 0), NONE);
        due("by DAY 1: would", x.would(1, 0), 34);
        due("by DAY 1: paid", x.paid(0, 1), 0);
        x.day(3);
        Texts.rules(x, "");
        due("one without statements", x.would(3, 0), 34);
        due("paid by it", x.paid(0, 3), 0);
        due("by DAY 2", x.paid(0, 2), 7);
        Texts.rules(x, "go");
        due("a FAULT isn't taken", x.count(6), 3);
    }

    private void testBeside() {
        says(TERMS, "BESIDE: other RULES that are TRIED in place of those in force.");
        IceSearch x = ruled(3, "go east;pay 1 for told;");
        x.find(2, 1, 0, 0, 0, NONE, 0);
        due("beside", Texts.beside(x, "go west;pay 9 for told;pay 9 for told;"), 0);
        due("would", x.would(0, 0), 37);
        due("tried", x.tried(0, 0), 32);
        due("paid by those in force", x.paid(0, 0), 1);
        due("no QUARREL of those in force", x.quarrel(0, 0), NONE);
        due("RULES", x.count(6), 1);
        due("statements", x.count(7), 2);
        x.day(9);
        due("on another DAY", Texts.beside(x, "go south;"), 0);
        due("tried by a DAY before", x.tried(0, 0), 82);
    }

    private void testQuarrel() {
        says(TERMS, "QUARREL of RULES: the first two \"pay\" (least first, then least second) for one KIND without "
            + "\"if\".");
        String[] texts = {
            "pay 1 for told;pay 1 for paper;pay 2 for paper;pay 2 for told;pay 3 for told;",
            "stay;pay 1 for told;stay;pay 1 for told;",
            "pay 1 for told if men=1;pay 1 for told;pay 1 for told if men=1;pay 1 for told;",
            "pay 1 for told;pay 1 for told if men=1;",
            "pay 1 for told if men=1;pay 1 for told if men=1;",
            "pay 1 for told;pay 1 for paper;pay 1 for grave;pay 1 for bought;pay 1 for nothing;",
            "pay 1 for told;",
            "",
            "stay;stay;",
            "stay;".repeat(28) + "pay 1 for nothing;pay 2 for nothing;",
            "pay 1 for bought;" + "stay;".repeat(28) + "pay 2 for bought;"
        };
        int[][] want = {{0, 3}, {1, 3}, {1, 3}, {NONE, NONE}, {NONE, NONE}, {NONE, NONE}, {NONE, NONE}, {NONE, NONE},
            {NONE, NONE}, {28, 29}, {0, 29}};
        for (int i = 0; i < texts.length; i++) {
            IceSearch x = new IceSearch();
            Texts.rules(x, texts[i]);
            due("first of \"" + texts[i] + "\"", x.quarrel(0, 0), want[i][0]);
            due("second of \"" + texts[i] + "\"", x.quarrel(0, 1), want[i][1]);
        }
        for (String kind : KINDS) {
            IceSearch x = new IceSearch();
            Texts.rules(x, "pay 1 for " + kind + ";pay 2 for " + kind + ";");
            due("for " + kind, x.quarrel(0, 0) * 10 + x.quarrel(0, 1), 1);
        }
    }

    private void testOrders() {
        says(TERMS, "ORDERS: all but \"pay\".");
        due("pay is no ORDER", ruled(1, "pay 1 for told;leave;").would(0, 3), 1);
        due("pay with if is none", ruled(1, "pay 1 for told if men=20;leave;").would(0, 3), 1);
        due("stay is one", ruled(1, "stay;leave;").would(0, 3), 0);
        due("go is one, though they stay", ruled(1, "go north if men=20;leave;").would(0, 3), 0);
        due("walk is one, though they stay", ruled(1, "walk north;leave;").would(0, 3), 0);
        due("leave is one", ruled(2, "leave;go north;").would(0, 0), 34);
        due("pay alone: they stay", ruled(1, "pay 1 for told;").would(0, 0), 34);
    }

    private void testWouldSteps() {
        says(TERMS, "WOULD as KNOWN by a DAY: the LOST from STEP 0 on at their CELL, not AFOOT; on each STEP from 1 "
            + "to LAST: those "
            + "who live EAT;");
        IceSearch x = ruled(0, "leave;");
        due("LAST 0: CELL", x.would(0, 0), 34);
        due("LAST 0: MEN", x.would(0, 1), 20);
        due("LAST 0: FOOD", x.would(0, 2), 5000);
        due("LAST 0: not AFOOT", x.would(0, 3), 0);
        x.set(1, 50);
        due("LAST 1: AFOOT", x.would(0, 3), 1);
        due("LAST 1: FOOD", x.would(0, 2), 4980);
        x.set(119, 50);
        due("LAST 119: FOOD", x.would(0, 2), 5000 - 119 * 20);
        x.lost(34, 20, 50, NONE);
        int[] men = {20, 20, 20, 17, 15, 13};
        int[] food = {50, 30, 10, 0, 0, 0};
        for (int last = 0; last < men.length; last++) {
            x.set(last, 50);
            due("LAST " + last + ": MEN", x.would(0, 1), men[last]);
            due("LAST " + last + ": FOOD", x.would(0, 2), food[last]);
        }
        x = ruled(119, "go east if step=1;go west if step=119;");
        due("on STEP 1", x.would(0, 101), 35);
        due("on STEP 118", x.would(0, 218), 35);
        due("on STEP 119", x.would(0, 219), 34);
    }

    private void testFirstOrder() {
        says(TERMS, "then the first ORDER whose ANY holds (none: they stay) is done: \"stay\"; \"leave\": they're "
            + "AFOOT from now on;");
        due("the first", ruled(1, "go east;go west;").would(0, 0), 35);
        due("the first that holds", ruled(1, "go east if men=1;go west if men=20;go north;").would(0, 0), 33);
        due("none holds", ruled(3, "go east if men=1;go west if men>20;").would(0, 0), 34);
        due("without if it holds", ruled(1, "go south;").would(0, 0), 50);
        due("stay", ruled(3, "stay;go south;").would(0, 0), 34);
        IceSearch x = ruled(4, "go south if step=1;leave if step=2;stay if step=3;walk south;");
        int[] cells = {34, 50, 50, 50, 66};
        int[] afoot = {0, 0, 1, 1, 1};
        for (int step = 0; step <= 4; step++) {
            due("CELL on STEP " + step, x.would(0, 100 + step), cells[step]);
            x.set(step, 50);
            due("AFOOT on STEP " + step, x.would(0, 3), afoot[step]);
            x.set(4, 50);
        }
        due("leaving again", ruled(3, "leave;").would(0, 3), 1);
    }

    private void testGoAndWalk() {
        says(TERMS, "\"go\": if they aren't AFOOT, to the next CELL there, if that is sea that isn't SHUT; \"walk\": "
            + "if they're AFOOT, "
            + "to the next CELL there; else they stay.");
        int[] next = {18, 35, 50, 33};
        int[] edges = {2, 47, 242, 32};
        for (int d = 0; d < 4; d++) {
            String to = DIRECTIONS[d] + ";";
            IceSearch go = ruled(1, "go " + to);
            IceSearch walk = ruled(2, "leave if step=1;walk " + to);
            due("go " + to, go.would(0, 0), next[d]);
            due("walk " + to, walk.would(0, 0), next[d]);
            due("go AFOOT " + to, ruled(2, "leave if step=1;go " + to).would(0, 0), 34);
            due("walk not AFOOT " + to, ruled(2, "walk " + to).would(0, 0), 34);
            go.day(1);
            walk.day(1);
            go.ice(next[d], 0, true);
            walk.ice(next[d], 0, true);
            due("go to SHUT sea " + to, go.would(1, 0), 34);
            due("SHUT, but not by DAY 0 " + to, go.would(0, 0), next[d]);
            due("walk to SHUT sea " + to, walk.would(1, 0), next[d]);
            go.ice(next[d], 0, false);
            go.land(next[d], true);
            walk.land(next[d], true);
            due("go to land " + to, go.would(1, 0), 34);
            due("walk to land " + to, walk.would(1, 0), next[d]);
            IceSearch x = ruled(16, "go " + to);
            due("go to the edge " + to, x.would(0, 0), edges[d]);
            x.lost(34, 20, 5000, 0);
            x.land(next[d], true);
            due("go though ASHORE " + to, x.would(0, 0), 34);
            due("walk to the edge " + to, ruled(17, "leave if step=1;walk " + to).would(0, 0), edges[d]);
        }
        IceSearch x = ruled(11, "go east if step>9;");
        x.ice(35, 0, true);
        due("SHUT in another YEAR", x.would(0, 110), 35);
        x.ice(36, 1, true);
        due("SHUT in its YEAR", x.would(0, 111), 35);
    }

    private void testNoneAlive() {
        says(TERMS, "None alive: they stay.");
        IceSearch x = ruled(4, "go east;");
        x.lost(34, 3, 0, NONE);
        int[] cells = {34, 35, 36, 36, 36};
        for (int step = 0; step <= 4; step++) {
            due("three without FOOD on STEP " + step, x.would(0, 100 + step), cells[step]);
        }
        x = ruled(1, "leave;");
        x.lost(34, 1, 0, NONE);
        due("the last one dies before leaving", x.would(0, 3), 0);
        x.lost(34, 1, 1, NONE);
        due("the last one lives", x.would(0, 3), 1);
        due("they stay whatever men=0 orders", ruledDead("go east if men=0;"), 34);
    }

    private int ruledDead(String text) {
        IceSearch x = ruled(3, text);
        x.lost(34, 1, 0, NONE);
        return x.would(0, 0);
    }

    private void testAsked() {
        says(TERMS, "Asked: year, step; food (behind eating); men;");
        for (int step : new int[] {1, 9, 10, 19, 20, 109, 110, 119}) {
            String year = "year=" + step / 10;
            String now = "step=" + step;
            due(year + ", " + now, ruled(step, "leave if " + year + " and " + now + ";").would(0, 3), 1);
            due("not " + year + ", " + now, ruled(step, "leave if " + now + " and not " + year + ";").would(0, 3), 0);
        }
        holds("step=0", false);
        holds("year=0", true);
        holds("food=4980", true);
        holds("food=5000", false);
        IceSearch x = ruled(1, "leave if men=17 and food=0;");
        x.lost(34, 20, 19, NONE);
        due("behind eating and dying", x.would(0, 3), 1);
        says(TERMS, "afoot 1 or 0; others 0.");
        holds("afoot=0", true);
        holds("afoot=1", false);
        due("AFOOT", ruled(3, "leave if step=1;walk east if afoot=1 and step=2;").would(0, 0), 35);
        for (String other : new String[] {"reach", "trust", "first"}) {
            holds(other + "=0", true);
            holds(other + ">0", false);
        }
    }

    private void testAskedDirections() {
        says(TERMS, "north and so on: 1, if the next CELL there is sea that isn't SHUT, else 0;");
        int[] next = {18, 35, 50, 33};
        int[] edges = {5, 111, 245, 96};
        for (int d = 0; d < 4; d++) {
            for (int e = 0; e < 4; e++) {
                String one = DIRECTIONS[d] + "=1";
                IceSearch x = ruled(10, "leave if step=10 and " + one + ";");
                x.day(1);
                due(one, x.would(0, 3), 1);
                x.ice(next[e], 1, true);
                due(one + " with SHUT " + DIRECTIONS[e], x.would(1, 3), d == e ? 0 : 1);
                due(one + " by the DAY before", x.would(0, 3), 1);
                x.set(9, 50);
                Texts.rules(x, "leave if step=9 and " + one + ";");
                due(one + " in the YEAR before", x.would(1, 3), 1);
                x.land(next[e], true);
                due(one + " with land " + DIRECTIONS[e], x.would(1, 3), d == e ? 0 : 1);
                x.lost(edges[e], 20, 5000, 0);
                due(one + " at the edge " + DIRECTIONS[e], x.would(1, 3), d == e ? 0 : 1);
                Texts.rules(x, "leave if step=9 and " + DIRECTIONS[d] + "=0;");
                due(DIRECTIONS[d] + "=0 at the edge " + DIRECTIONS[e], x.would(1, 3), d == e ? 1 : 0);
            }
        }
    }

    private void testSaved() {
        says(TERMS, "SAVED: the first STEP on which they're at a HOME CELL (told) with MEN.");
        IceSearch x = ruled(5, "go east;");
        due("none told", x.would(0, 4), NONE);
        x.home(39, true);
        due("on LAST", x.would(0, 4), 5);
        x.set(4, 50);
        due("behind LAST", x.would(0, 4), NONE);
        x.set(5, 50);
        x.home(36, true);
        due("the first of two", x.would(0, 4), 2);
        x.home(34, true);
        due("on STEP 0", x.would(0, 4), 0);
        x.home(34, false);
        x.lost(34, 2, 0, NONE);
        due("all dead by STEP 2", x.would(0, 4), NONE);
        x.lost(34, 3, 0, NONE);
        due("one lives on STEP 2", x.would(0, 4), 2);
        x = ruled(3, "stay;");
        x.lost(34, 1, 0, NONE);
        x.home(34, true);
        due("alive on STEP 0 alone", x.would(0, 4), 0);
        x = ruled(3, "leave if step=1;walk east;");
        x.land(36, true);
        x.home(36, true);
        due("a HOME CELL on land", x.would(0, 4), 3);
        x.home(34, true);
        due("where they left", x.would(0, 4), 0);
    }

    private void testPaid() {
        says(TERMS, "PAID to a FINDER as KNOWN by a DAY: for each find of theirs KNOWN by it that isn't DOUBTED what "
            + "the first \"pay\" "
            + "for its KIND whose ANY holds tells.");
        IceSearch x = new IceSearch();
        Texts.rules(x, "pay 1 for paper if year=1;pay 20 for paper;pay 300 for paper;leave;pay 4000 for grave;");
        for (int finder = 0; finder <= 9; finder++) {
            due("without finds, FINDER " + finder, x.paid(finder, 0), 0);
        }
        x.find(0, 0, 0, 119, 0, NONE, 0);
        due("the first that holds", x.paid(0, 0), 20);
        x.find(0, 1, 10, 10, 0, NONE, 0);
        due("of two finds", x.paid(0, 0), 21);
        x.find(1, 2, 10, 10, 0, NONE, 9);
        due("another FINDER", x.paid(9, 0), 4000);
        x.find(4, 3, 10, 10, 1, NONE, 9);
        due("no pay for its KIND", x.paid(9, 0), 4000);
        x.day(5);
        x.find(1, 4, 10, 10, 0, NONE, 9);
        x.doubt(0, true);
        due("by DAY 4", x.paid(9, 4), 4000);
        due("by DAY 5", x.paid(9, 5), 8000);
        due("DOUBTED, by DAY 4", x.paid(0, 4), 21);
        due("DOUBTED, by DAY 5", x.paid(0, 5), 1);
        x = new IceSearch();
        for (int i = 0; i < 40; i++) {
            x.find(i % 2 * 4, 0, 0, 0, i % 2, NONE, 9);
        }
        Texts.rules(x, "pay 99999 for paper;pay 99999 for nothing;");
        due("the greatest", x.paid(9, 0), 40 * 99999);
        Texts.rules(x, "pay 0 for paper;pay 5 for paper;pay 0 for nothing;");
        due("0 of all", x.paid(9, 0), 0);
    }

    private void testPaidAsked() {
        says(TERMS, "Asked: year, step of a; reach n; trust;");
        IceSearch x = new IceSearch();
        x.teller(63, NONE);
        x.find(3, 99, 29, 47, 15, 0, 4);
        String[][] words = {{"year", "2"}, {"step", "29"}, {"reach", "15"}, {"trust", "63"}, {"first", "1"}};
        for (String[] word : words) {
            due("at " + word[0], payIf(x, word[0] + "=" + word[1]), 7);
            x = again(x);
            due("below " + word[0], payIf(x, word[0] + "<" + word[1]), 0);
            due("above " + word[0], payIf(x, word[0] + ">" + word[1]), 0);
        }
        says(TERMS, "has its CELL; others 0.");
        x = again(x);
        for (String other : new String[] {"food", "men", "north", "east", "south", "west", "afoot"}) {
            due(other, payIf(x, other + "=0"), 7);
        }
        x = again(x);
        due("above 0", payIf(x, "food>0 or men>0 or north>0 or east>0 or south>0 or west>0 or afoot>0"), 0);
    }

    /** Up to eight RULES fit into one object, so there's a new one with the same find. */
    private static IceSearch again(IceSearch x) {
        IceSearch y = new IceSearch();
        y.teller(x.found(0, 7), NONE);
        y.find(x.found(0, 0), x.found(0, 1), x.found(0, 2), x.found(0, 3), x.found(0, 4), 0, x.found(0, 6));
        return y;
    }

    private int payIf(IceSearch x, String any) {
        due("RULES", Texts.rules(x, "pay 7 for bought if " + any + ";") >= 0, true);
        return x.paid(4, 0);
    }

    private void testPaidFirst() {
        says(TERMS, "first: 1, if no find KNOWN by it with a lesser number has its CELL;");
        IceSearch x = new IceSearch();
        Texts.rules(x, "pay 100 for paper if first=1;pay 1 for paper if first=0;");
        x.find(0, 7, 0, 0, 0, NONE, 0);
        x.find(0, 7, 5, 5, 0, NONE, 1);
        x.find(4, 8, 0, 0, 1, NONE, 2);
        x.find(0, 8, 0, 0, 0, NONE, 3);
        x.find(0, 9, 0, 0, 0, NONE, 4);
        due("the first", x.paid(0, 0), 100);
        due("the second at a CELL", x.paid(1, 0), 1);
        due("behind one of another KIND", x.paid(3, 0), 1);
        due("at a new CELL", x.paid(4, 0), 100);
        x.day(1);
        x.doubt(0, true);
        due("the second, the first DOUBTED", x.paid(1, 1), 1);
        due("the first, DOUBTED", x.paid(0, 1), 0);
        x.find(0, 9, 0, 0, 0, NONE, 4);
        due("of one FINDER", x.paid(4, 1), 101);
        due("by the DAY before", x.paid(4, 0), 100);
    }

    private void testPromisedRules() {
        says("Promise 29", "The first n bytes of the tape (which is empty then, with a FAULT, too) are RULES: their "
            + "number.");
        IceSearch x = new IceSearch();
        due("none of none", x.rules(0), 0);
        Texts.feed(x, "stay;leave;");
        due("the first five", x.rules(5), 1);
        due("statements", x.count(7), 1);
        due("the tape", x.count(13), 0);
        Texts.feed(x, "stay;leave;");
        due("none of twenty", x.rules(0), 2);
        due("the tape", x.count(13), 0);
        Texts.feed(x, "stay;leave;");
        due("all twenty", x.rules(20), 3);
        due("statements", x.count(7), 2);
        Texts.feed(x, "stay;leave;");
        due("a FAULT", x.rules(3), NONE);
        due("the tape with a FAULT", x.count(13), 0);
        due("n 1 then", x.rules(1), NONE_SUCH);
        says("Promise 29", "NONE: a FAULT;");
        Texts.feed(x, "stay;leav;");
        due("a FAULT", x.rules(10), NONE);
        due("RULES", x.count(6), 4);
        due("statements of the last", x.count(7), 2);
        due("the next number", x.rules(0), 4);
    }

    private void testPromisedRulesRefused() {
        says("Promise 29", "-2, doing nothing: n is below 0 or more than there are;");
        IceSearch x = new IceSearch();
        Texts.rules(x, "zz");
        due("n 1 of none", x.rules(1), NONE_SUCH);
        Texts.feed(x, "stay;leave;");
        String before = counts(x);
        for (int n : new int[] {MIN, -2, -1, 21, 22, 700, 701, MAX}) {
            due("n " + n, x.rules(n), NONE_SUCH);
        }
        dueNothingDone(x, before);
        due("the FAULT before", x.fault(), 0);
        due("the text is there still", x.rules(11), 0);
        due("two statements", x.count(7), 2);
        says("Promise 29", "-3, doing nothing: there are 8.");
        for (int i = 1; i < 8; i++) {
            due("RULES " + i, x.rules(0), i);
        }
        Texts.beside(x, "zz");
        Texts.feed(x, "stay;leave;");
        before = counts(x);
        for (int n : new int[] {0, 5, 11, 20}) {
            due("n " + n, x.rules(n), -3);
        }
        dueNothingDone(x, before);
        due("the FAULT before", x.fault(), 0);
        due("beside is none of them", x.beside(11), 0);
        due("still -3", x.rules(0), -3);
    }

    private void testPromisedBeside() {
        says("Promise 30", "Likewise RULES BESIDE (in place of what was): 0.");
        IceSearch x = new IceSearch();
        x.set(1, 50);
        x.lost(34, 20, 5000, NONE);
        due("none of none", x.beside(0), 0);
        due("they stay", x.tried(0, 0), 34);
        for (int i = 0; i < 12; i++) {
            due("the time " + i, Texts.beside(x, i % 2 == 0 ? "go east;" : "go west;"), 0);
            due("in place of what was", x.tried(0, 0), i % 2 == 0 ? 35 : 33);
            due("the tape", x.count(13), 0);
        }
        for (int i = 0; i < 12; i++) {
            String text = "leave if men=" + (20 + i % 2) + " and(men=20 or men=1)".repeat(29) + ";";
            due("a long one, the time " + i, Texts.beside(x, text), 0);
            due("it's TRIED", x.tried(0, 3), i % 2 == 0 ? 1 : 0);
        }
        due("RULES", x.count(6), 0);
        says("Promise 30", "NONE: a FAULT (none are beside then);");
        due("a FAULT", Texts.beside(x, "go east;zz"), NONE);
        due("none are beside", x.count(14), 0);
        due("none are TRIED", x.tried(0, 0), NONE_SUCH);
        due("its place", x.fault(), 8);
        due("the tape", x.count(13), 0);
        says("Promise 30", "-2 likewise.");
        Texts.beside(x, "go south;");
        Texts.feed(x, "go north;");
        String before = counts(x);
        for (int n : new int[] {MIN, -1, 21, 700, 701, MAX}) {
            due("n " + n, x.beside(n), NONE_SUCH);
        }
        dueNothingDone(x, before);
        due("those before are beside", x.tried(0, 0), 50);
        due("no FAULT as before", x.fault(), NONE);
        due("the tape is as it was", x.beside(20), 0);
        due("now these are", x.tried(0, 0), 18);
    }

    private void testPromisedFault() {
        says("Promise 31", "The FAULT's place of the latest rules() or beside() that was a number or NONE;");
        IceSearch x = new IceSearch();
        Texts.rules(x, "stay;zz");
        due("of rules", x.fault(), 5);
        due("asked again", x.fault(), 5);
        x.rules(1);
        x.rules(-1);
        x.beside(1);
        x.beside(-1);
        due("-2 was none", x.fault(), 5);
        Texts.beside(x, "zz");
        due("of beside, at 0", x.fault(), 0);
        Texts.beside(x, "stay" + " ".repeat(696));
        due("the greatest", x.fault(), 700);
        says("Promise 31", "NONE: it had none.");
        due("of a new one", new IceSearch().fault(), NONE);
        Texts.rules(x, "stay;");
        due("rules took them", x.fault(), NONE);
        Texts.rules(x, "zz");
        Texts.beside(x, "stay;");
        due("beside took them", x.fault(), NONE);
        for (int i = 1; i < 8; i++) {
            x.rules(0);
        }
        Texts.beside(x, " zz");
        due("-3 is none", x.rules(0) * 100 + x.fault(), -299);
    }

    private void testPromisedWould() {
        says("Promise 33", "WOULD as KNOWN by a DAY: 0 the CELL at the end, 1 MEN, 2 FOOD, 3 whether they're AFOOT "
            + "(1), 4 SAVED (NONE), "
            + "100 + s the CELL on STEP s (at most LAST).");
        IceSearch x = ruled(3, "go east if step<3;leave;");
        int[] want = {36, 20, 4940, 1, NONE};
        for (int what = 0; what <= 4; what++) {
            due("what " + what, x.would(0, what), want[what]);
        }
        int[] cells = {34, 35, 36, 36};
        for (int step = 0; step <= 3; step++) {
            due("on STEP " + step, x.would(0, 100 + step), cells[step]);
        }
        x.set(119, 50);
        due("on STEP 119", x.would(0, 219), 36);
        says("Promise 33", "-2: none such.");
        for (int what : new int[] {MIN, -1, 5, 6, 10, 98, 99, 220, 221, 1000, MAX}) {
            due("what " + what, x.would(0, what), NONE_SUCH);
        }
        x.set(2, 50);
        due("STEP 3 behind LAST", x.would(0, 103), NONE_SUCH);
        x.set(0, 50);
        due("STEP 1 behind LAST", x.would(0, 101), NONE_SUCH);
        due("STEP 0", x.would(0, 100), 34);
        for (int day : NO_DAYS) {
            due("DAY " + day, x.would(day, 0), NONE_SUCH);
            due("STEP 0, DAY " + day, x.would(day, 100), NONE_SUCH);
        }
    }

    private void testPromisedTried() {
        says("Promise 34", "WOULD by RULES BESIDE, ice as KNOWN by a DAY (what 0 to 4 as for would).");
        IceSearch x = ruled(3, "stay;");
        x.day(6);
        Texts.beside(x, "go east if step<3;leave;");
        x.ice(36, 0, true);
        x.home(35, true);
        int[] before = {36, 20, 4940, 1, 1};
        int[] now = {35, 20, 4940, 1, 1};
        for (int what = 0; what <= 4; what++) {
            due("by DAY 5, what " + what, x.tried(5, what), before[what]);
            due("by DAY 6, what " + what, x.tried(6, what), now[what]);
        }
        x.home(35, false);
        due("not SAVED", x.tried(6, 4), NONE);
        says("Promise 34", "-2: none are beside, none such.");
        for (int what : new int[] {MIN, -1, 5, 99, 100, 101, 103, MAX}) {
            due("what " + what, x.tried(6, what), NONE_SUCH);
        }
        for (int day : NO_DAYS) {
            due("DAY " + day, x.tried(day, 0), NONE_SUCH);
        }
        Texts.beside(x, "zz");
        for (int what = 0; what <= 4; what++) {
            due("none beside, what " + what, x.tried(6, what), NONE_SUCH);
            due("never any, what " + what, ruled(1, "stay;").tried(0, what), NONE_SUCH);
        }
    }

    private void testPromisedQuarrel() {
        says("Promise 35", "QUARREL of the RULES KNOWN by a DAY: the first (what 0), second (1).");
        IceSearch x = new IceSearch();
        x.day(2);
        Texts.rules(x, "stay;pay 1 for told;pay 1 for told;");
        x.day(4);
        Texts.rules(x, "pay 1 for told;pay 1 for paper;stay;pay 1 for paper;");
        int[][] want = {{NONE, NONE}, {NONE, NONE}, {1, 2}, {1, 2}, {1, 3}, {1, 3}};
        for (int day = 0; day < want.length; day++) {
            due("the first by DAY " + day, x.quarrel(day, 0), want[day][0]);
            due("the second by DAY " + day, x.quarrel(day, 1), want[day][1]);
        }
        says("Promise 35", "NONE: none, none such.");
        for (int what : new int[] {MIN, -1, 2, 3, MAX}) {
            due("what " + what, x.quarrel(4, what), NONE);
        }
        for (int day : NO_DAYS) {
            due("DAY " + day, x.quarrel(day, 0), NONE);
            due("the second, DAY " + day, x.quarrel(day, 1), NONE);
        }
        Texts.rules(x, "pay 1 for told;");
        due("none", x.quarrel(4, 0), NONE);
        due("none, no second", x.quarrel(4, 1), NONE);
    }

    private void testPromisedPaid() {
        says("Promise 36", "PAID as KNOWN by a DAY.");
        IceSearch x = new IceSearch();
        x.find(0, 1, 0, 0, 0, NONE, 0);
        x.find(0, 1, 0, 0, 0, NONE, 9);
        x.day(3);
        Texts.rules(x, "pay 5 for paper;");
        due("by DAY 2", x.paid(0, 2), 0);
        due("by DAY 3", x.paid(0, 3), 5);
        due("FINDER 9", x.paid(9, 999), 5);
        due("FINDER 8", x.paid(8, 3), 0);
        says("Promise 36", "-2: none such.");
        for (int finder : new int[] {MIN, -1, 10, 11, MAX}) {
            due("FINDER " + finder, x.paid(finder, 3), NONE_SUCH);
        }
        for (int day : NO_DAYS) {
            due("DAY " + day, x.paid(0, day), NONE_SUCH);
        }
    }
}
