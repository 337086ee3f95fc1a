/** The sentences of Terms IV on questions, and promise 35. */
final class QuestionSentences {
    /** Of the shared court the CASES have RULINGS 1 2 0 0 1, WORDS 3 4 2 4 7; THE TRUTH is 1. */
    private static final WordEach COURT = Check.court(Check.COW);

    private QuestionSentences() {
    }

    static void run() {
        Sentence.section("Terms");
        Sentence.says("IV. A QUESTION is a text, of all CASES, by the LINES in force:", QuestionSentences::ofAllCases);
        Sentence.says("first TEST, last TEST (the first, the last CASE in which it holds),", QuestionSentences::firstAndLast);
        Sentence.says("often TEST (in how many),", QuestionSentences::often);
        Sentence.says("total SUM (of all together, not held),", QuestionSentences::total);
        Sentence.says("most SUM, least SUM (the greatest, the least of all; 0 without CASES).",
            QuestionSentences::mostAndLeast);
        grammar();
        Sentence.says("(The CASE's number; how many WORDS it has; its RULING; 1 if that is THE TRUTH, else 0; the WORD's "
            + "number at that place of it, 99 behind its end, or when there is none such; how often the WORD of that number "
            + "is in it.)", QuestionSentences::whatPartsTell);
        Sentence.says("All from the left on;", QuestionSentences::fromTheLeft);
        Sentence.says("/ gives the greatest whole number not above, by 0 it gives 0;", QuestionSentences::division);
        Sentence.says("each PART but N, each sum, difference, product above 10 to the 6 is that, below -10 to the 6 "
            + "likewise.", QuestionSentences::held);
        Sentence.says("Its FAULTS: 1 as in I (an unknown word at its first byte; what stands behind it, too);",
            QuestionSentences::syntaxFaults);
        Sentence.says("4 the 7th of ( [ not at has that is open at once (not until its FACT, at and has until their PART "
            + "ends), at it.", QuestionSentences::openAtOnce);
        promise();
    }

    private static void grammar() {
        Sentence.says("TEST: BOTH { or BOTH }.", QuestionSentences::tests);
        Sentence.says("BOTH: FACT { and FACT }.", QuestionSentences::boths);
        Sentence.says("FACT: not FACT; [ TEST ] ; all; SUM SIGN SUM, SIGN < or > or = .", QuestionSentences::facts);
        Sentence.says("SUM: PRODUCT { + or - PRODUCT }.", QuestionSentences::sums);
        Sentence.says("PRODUCT: PART { * or / PART }.", QuestionSentences::products);
        Sentence.says("PART: N (1 to 4 digits); number; words; ruling; fair; at PART; has PART; ( SUM ) ; min ( SUM , SUM ) ; "
            + "max ( SUM , SUM ) .", QuestionSentences::parts);
    }

    private static void promise() {
        Sentence.section("Promise 35");
        Sentence.says("The tape (it goes) is a QUESTION: its answer;", QuestionSentences::tapeGoes);
        Sentence.says("NONE of first, last, when its TEST holds in none;", QuestionSentences::holdsInNone);
        Sentence.says("NOTHING with a FAULT.", QuestionSentences::nothing);
    }

    private static void answers(WordEach x, String text, long due) {
        Check.due("ask " + text, Check.ask(x, text), due);
        Check.due("fault of " + text, x.fault(0), 0);
        Check.due("place in " + text, x.fault(1), -1);
        Check.due("the tape goes", x.end(1), false);
    }

    private static void answers(String text, long due) {
        answers(COURT, text, due);
    }

    /** A question whose FAULT is where it has a ^. */
    private static void marked(int fault, String marked) {
        faulty(marked.replace("^", ""), fault, marked.indexOf('^'));
    }

    private static void faulty(String text, int fault, int place) {
        Check.due("ask " + text, Check.ask(COURT, text), WordEach.NOTHING);
        Check.due("fault of " + text, COURT.fault(0), fault);
        Check.due("place in " + text, COURT.fault(1), place);
        Check.due("the tape goes", COURT.end(1), false);
    }

    /** A COURT of n CASES: number k has k + 1 WORDS. */
    private static WordEach ofCases(int n) {
        StringBuilder t = new StringBuilder("name a;deed d;line who did;accused a d;");
        for (int i = 0; i < n; i++) {
            t.append("case").append(" a".repeat(i + 1)).append(";");
        }
        return Check.court(t.toString());
    }

    // ---- what is asked

    private static void ofAllCases() {
        for (int n = 0; n <= 8; n++) {
            WordEach x = ofCases(n);
            answers(x, "often all", n);
            answers(x, "total words", n * (n + 1) / 2);
            answers(x, "last all", n - 1);
            answers(x, "most words", n);
            answers(x, "least words", n == 0 ? 0 : 1);
        }
        WordEach x = Check.court(Check.COW);
        answers(x, "total ruling", 4);
        Check.due("line", x.line(0, false), true);
        answers(x, "total ruling", 0);
        Check.due("line", x.line(0, true), true);
        Check.due("line", x.line(1, false), true);
        answers(x, "total ruling", 3);
        Check.due("say", x.say(0, 0), 1);
        answers(x, "total words", 20);
    }

    private static void firstAndLast() {
        for (int number = 0; number < 5; number++) {
            answers("first number=" + number, number);
            answers("last number=" + number, number);
            answers("first number>" + number, number == 4 ? -1 : number + 1);
            answers("last number<" + number, number - 1);
        }
        answers("first all", 0);
        answers("last all", 4);
        answers("first ruling=0", 2);
        answers("last ruling=0", 3);
        answers("first ruling=1", 0);
        answers("last ruling=1", 4);
    }

    private static void often() {
        answers("often all", 5);
        answers("often not all", 0);
        answers("often ruling=0", 2);
        answers("often ruling=1", 2);
        answers("often ruling=2", 1);
        answers("often words=3", 1);
        answers("often words=4", 2);
    }

    private static void total() {
        answers("total 1", 5);
        answers("total 0", 0);
        answers("total number", 10);
        answers("total 0-number", -10);
        answers("total 9999*9999", 5000000);
        answers("total 0-9999*9999", -5000000);
        WordEach eight = ofCases(8);
        answers(eight, "total 1000*1000", 8000000);
        answers(eight, "total 0-1000*1000", -8000000);
        answers(new WordEach(), "total 7", 0);
    }

    private static void mostAndLeast() {
        answers("most words", 7);
        answers("least words", 2);
        answers("most 0-words", -2);
        answers("least 0-words", -7);
        answers("most 5", 5);
        answers("least 5", 5);
        answers("most number", 4);
        answers("least number", 0);
        for (String asked : new String[] {"most", "least"}) {
            answers(new WordEach(), asked + " 7", 0);
            answers(new WordEach(), asked + " 0-7", 0);
            answers(ofCases(1), asked + " 7", 7);
            answers(ofCases(1), asked + " 0-7", -7);
        }
    }

    // ---- the grammar of a question

    private static String row(String first, String further, int times) {
        return first + further.repeat(times);
    }

    private static void tests() {
        answers("often number=0 or number=1", 2);
        answers("often number=0 or number=1 or number=3 or number=4", 4);
        answers("often number=0 or all", 5);
        answers("often all or number=0", 5);
        answers("often not all or not all", 0);
        answers(row("often not all", " or not all", 142) + " or number=4", 1);
        marked(1, "often all or^");
        marked(1, "often ^or all");
        marked(1, "often all or ^or all");
        marked(1, "often all or ^and all");
        marked(1, "often all ^all");
    }

    private static void boths() {
        answers("often number>0 and number<4", 3);
        answers("often number>0 and number<4 and words=4 and ruling=2", 1);
        answers("often all and not all", 0);
        answers("often not all and all", 0);
        answers(row("often all", " and all", 197) + " and number=4", 1);
        answers("often number=0 or number=1 and number=2", 1);
        answers("often number=1 and number=2 or number=0", 1);
        answers("often number=0 or number=1 and number=1 or number=4", 3);
        marked(1, "often all and^");
        marked(1, "often ^and all");
        marked(1, "often all and ^and all");
    }

    private static void facts() {
        answers("often not number=0", 4);
        answers("often not not number=0", 1);
        answers("often not number=0 and number=0", 0);
        answers("often not number=0 or number=0", 5);
        answers("often not [number=0 or number=1]", 3);
        answers("often [number=0 or number=1] and number=1", 1);
        answers("often[[all]]", 5);
        int[][] due = {{0, 5, 0}, {5, 0, 0}, {0, 0, 5}};
        int[][] compared = {{2, 1}, {1, 2}, {2, 2}};
        for (int i = 0; i < 3; i++) {
            for (int sign = 0; sign < 3; sign++) {
                answers("often " + compared[i][0] + "<>=".charAt(sign) + compared[i][1], due[i][sign]);
            }
        }
        answers("often 0-1<0", 5);
        answers("often 1+1=4-2", 5);
        answers("often words + 1 > 2 * 2", 3);
        marked(1, "often ^");
        marked(1, "often not^");
        marked(1, "often [^");
        marked(1, "often [^]");
        marked(1, "often [all^");
        marked(1, "often [all^)");
        marked(1, "often all^]");
        marked(1, "often 1^");
        marked(1, "often 1 ^1");
        marked(1, "often 1<^");
        marked(1, "often 1=^=1");
        marked(1, "often 1<^>1");
        marked(1, "often 1<1^<1");
        marked(1, "often 1^!1");
        marked(1, "often 1=^all");
        marked(1, "often 1=^not all");
        marked(1, "often [1^]=1");
        marked(1, "often (^all)");
    }

    private static void sums() {
        answers("most 1+2", 3);
        answers("most 1-2", -1);
        answers("most 10-3-2", 5);
        answers("most 10-3+2", 9);
        answers("most 10-(3+2)", 5);
        answers("most 2+3*4", 14);
        answers("most 2*3+4", 10);
        answers("most 20-8/4", 18);
        answers(row("most 1", "+1", 796), 797);
        answers(row("most 1", "-1", 796), -795);
        marked(1, "most 1+^");
        marked(1, "most ^+1");
        marked(1, "most ^-1");
        marked(1, "most 1+^+1");
        marked(1, "most 1-^-1");
        marked(1, "most 1^%2");
    }

    private static void products() {
        answers("most 2*3", 6);
        answers("most 7/2", 3);
        answers("most 2*3*4", 24);
        answers("most 100/7/2", 7);
        answers("most 7/2*2", 6);
        answers("most 2*7/2", 7);
        answers("most 100/(7/2)", 33);
        answers(row("most 7", "*1", 796), 7);
        answers(row("most 7", "/1", 796), 7);
        marked(1, "most 1*^");
        marked(1, "most ^*1");
        marked(1, "most 1*^*1");
        marked(1, "most 1/^");
        marked(1, "most 1*^-1");
        marked(1, "most 1/^/1");
    }

    private static void parts() {
        String[] numbers = {"0", "7", "07", "007", "0007", "10", "999", "9999"};
        int[] values = {0, 7, 7, 7, 7, 10, 999, 9999};
        for (int i = 0; i < numbers.length; i++) {
            answers("most " + numbers[i], values[i]);
        }
        marked(1, "most 1000^0");
        marked(1, "most 0000^7");
        marked(1, "most 1234^5678");
        marked(1, "first 1=1234^5");
        marked(1, "most at 0000^0");
        answers("most(5)", 5);
        answers("most ( ( 5 ) )", 5);
        answers("most min(3,4)", 3);
        answers("most min(4,3)", 3);
        answers("most max(3,4)", 4);
        answers("most max(4,3)", 4);
        answers("most min ( 3 , 3 )", 3);
        answers("most min(0-3,max(0-5,0-4))", -4);
        answers("most max(1+1*2,2*1)", 3);
        answers("total at at 0", 0 + 99 + 0 + 0 + 99);
        answers("total has has 0", 0 + 0 + 1 + 0 + 0);
        answers("total at 0+1", 0 + 5 + 0 + 0 + 8 + 5);
        answers("total at 1*0", 0);
        answers("total has 0+0", 5);
        brokenParts();
    }

    private static void brokenParts() {
        marked(1, "most (^)");
        marked(1, "most (1^");
        marked(1, "most (1^]");
        marked(1, "most (1^,2)");
        marked(1, "most 1^)");
        marked(1, "most min^");
        marked(1, "most min ^1,2");
        marked(1, "most min(^)");
        marked(1, "most min(1^)");
        marked(1, "most min(1,^)");
        marked(1, "most min(^,1)");
        marked(1, "most min(1,2^");
        marked(1, "most min(1,2^,3)");
        marked(1, "most max(1 ^2)");
        marked(1, "most at^");
        marked(1, "most at ^+1");
        marked(1, "most has^");
        marked(1, "most has ^all");
        marked(1, "most at ^-1");
        marked(1, "most ^[1]");
        marked(1, "most ^;");
    }

    private static void whatPartsTell() {
        for (int number = 0; number < 5; number++) {
            int[] words = {3, 4, 2, 4, 7};
            int[] rulings = {1, 2, 0, 0, 1};
            answers("often number=" + number + " and words=" + words[number], 1);
            answers("often number=" + number + " and ruling=" + rulings[number], 1);
            answers("often number=" + number + " and fair=" + (rulings[number] == 1 ? 1 : 0), 1);
        }
        int[] last = {8, 1, 4, 2, 7, 0, 4};
        for (int place = 0; place < 7; place++) {
            answers("most at " + place + "*(number/4)", last[place]);
        }
        int[] totals = {0 + 5 + 0 + 0 + 8, 4 + 0 + 3 + 4 + 1, 2 + 4 + 99 + 2 + 4, 99 + 2 + 99 + 6 + 2, 4 * 99 + 7, 4 * 99,
            4 * 99 + 4, 5 * 99, 5 * 99};
        for (int place = 0; place < totals.length; place++) {
            answers("total at " + place, totals[place]);
        }
        answers("total at 9999", 495);
        answers("total at (0-1)", 495);
        answers("total at (0-9999*9999)", 495);
        answers("total at (9999*9999)", 495);
        int[] due = {1 + 1 + 1 + 1 + 1, 1, 1 + 1 + 0 + 1 + 1, 1, 1 + 1 + 0 + 1 + 2, 1, 1, 1, 1, 0, 0};
        for (int word = 0; word < due.length; word++) {
            answers("total has " + word, due[word]);
        }
        answers("most has 4", 2);
        answers("total has 20", 0);
        answers("total has 99", 0);
        answers("total has (0-1)", 0);
        fairness();
    }

    private static void fairness() {
        String rest = "name he;deed hit;turn not;line who did;case he hit;case not he hit;case he;";
        answers(Check.court(rest + "fact he hit;accused he hit;"), "total fair*(number+1)", 1);
        answers(Check.court(rest + "accused he hit;"), "total fair*(number+1)", 2);
        answers(Check.court(rest + "fact he hit;"), "total fair*(number+1)", 6);
        answers(Check.court(rest + "accused he hit;"), "first fair=1", 1);
    }

    private static void fromTheLeft() {
        answers("most 10-3-2", 5);
        answers("most 100/10/5", 2);
        answers("most 7/2*2", 6);
        answers("most 2*7/2", 7);
        answers("most 9999*9999-9999*9999", 0);
        answers("most 9999*9999+1-1", 999999);
        answers("most 9999*9999/9999", 100);
        answers("often number=0 and number=1 or number=2", 1);
    }

    private static void division() {
        int[][] due = {{7, 2, 3}, {-7, 2, -4}, {7, -2, -4}, {-7, -2, 3}, {6, 2, 3}, {-6, 2, -3}, {6, -2, -3}, {-6, -2, 3},
            {1, 2, 0}, {-1, 2, -1}, {1, -2, -1}, {-1, -2, 0}, {0, 5, 0}, {0, -5, 0}, {5, 0, 0}, {-5, 0, 0}, {0, 0, 0},
            {1, 9999, 0}, {-1, 9999, -1}, {9999, 1, 9999}, {9999, -1, -9999}};
        for (int[] d : due) {
            answers("most " + part(d[0]) + "/" + part(d[1]), d[2]);
        }
        answers("most 1000*1000/(0-1)", -1000000);
        answers("most (0-1000*1000)/(0-1)", 1000000);
        answers("most (0-1000*1000)/9999", -101);
        answers("total 9/number", 0 + 9 + 4 + 3 + 2);
        answers("total (0-9)/number", 0 - 9 - 5 - 3 - 3);
    }

    private static String part(int n) {
        return n < 0 ? "(0-" + -n + ")" : "" + n;
    }

    private static void held() {
        answers("most 1000*1000", 1000000);
        answers("most 1000*999", 999000);
        answers("most 1000*1000-1", 999999);
        answers("most 1000*1000+1", 1000000);
        answers("most 1001*1000", 1000000);
        answers("most 999*1001+1", 1000000);
        answers("most 999*1001+1+1-1", 999999);
        answers("most 9999*9999", 1000000);
        answers("most 9999*9999*9999*9999", 1000000);
        answers("most 9999*9999+9999*9999-1", 999999);
        answers("most 0-1000*1000", -1000000);
        answers("most 0-1000*1000+1", -999999);
        answers("most 0-1000*1000-1", -1000000);
        answers("most 0-1000*1000-1+1", -999999);
        answers("most 0-9999*9999-9999*9999+1", -999999);
        answers("most (0-1000)*1001+1", -999999);
        answers("most (0-9999*9999)*(9999*9999)+1", -999999);
        answers("most (0-9999*9999)*(0-9999*9999)-1", 999999);
        answers("most 1000*1000-(0-1000*1000)-1", 999999);
        answers("often 9999*9999=1000*1000", 5);
        answers("often 9999*9999>1000*1000", 0);
        answers("often 1000*1000-1<1000*1000", 5);
        answers("most max(9999*9999,1)", 1000000);
        answers("most (9999*9999)", 1000000);
    }

    // ---- its faults

    /** A question token by token: w a word, n a number, s a sign; in capitals what may be its end. */
    private static final String[] TOKENS = {"woften", "wnot", "s[", "wnumber", "s<", "n15", "wor", "wat", "n12", "s=", "whas",
        "s(", "n3", "s)", "S]", "wand", "s[", "wmin", "s(", "wwords", "s,", "n1", "s)", "s>", "wfair", "s*", "wruling", "S]",
        "wor", "Wall"};

    private static void syntaxFaults() {
        StringBuilder t = new StringBuilder();
        for (String token : TOKENS) {
            t.append(token.substring(1)).append(' ');
        }
        String text = t.toString();
        int at = 0;
        for (String token : TOKENS) {
            int end = at + token.length() - 1;
            for (int n = at; n <= end; n++) {
                boolean isInside = n > at && n < end;
                boolean isWord = token.charAt(0) == 'w' || token.charAt(0) == 'W';
                int place = isInside && isWord ? at : n;
                boolean isWhole = n == end && token.charAt(0) < 'a' || n == at && isEndAhead(text, at);
                if (isWhole) {
                    Check.due("ask " + text.substring(0, n), Check.ask(COURT, text.substring(0, n)) >= 0, true);
                } else {
                    faulty(text.substring(0, n), 1, place);
                }
                faulty(text.substring(0, n) + "?" + text.substring(n), 1, place);
                faulty(text.substring(0, n) + (char) 200 + text.substring(n), 1, place);
            }
            at = end + 1;
        }
        answers(text, 5);
        unknownWords();
        blanks();
    }

    private static boolean isEndAhead(String text, int at) {
        return at > 1 && text.charAt(at - 2) == ']';
    }

    private static void unknownWords() {
        marked(1, "^");
        marked(1, "  ^");
        for (String word : new String[] {"a", "firs", "firsts", "abcdefghij", "name", "5", "?", "First", "or", "and", "not", "all",
            "number", "words", "ruling", "fair", "at", "has", "min", "max"}) {
            marked(1, "^" + word + " all");
            marked(1, "^" + word + " 5");
            marked(1, "^" + word);
        }
        for (String word : new String[] {"x", "wordss", "word", "abcdefghij", "name", "witness", "total", "first", "Words", "or",
            "and", "all", "not", "who"}) {
            marked(1, "total ^" + word);
            marked(1, "total 1+^" + word);
        }
        for (String word : new String[] {"x", "total", "al", "alls", "abcdefghij", "or", "and", "first", "accused"}) {
            marked(1, "first ^" + word);
        }
        // a full tape, cut in the middle of a word
        faulty("total" + " ".repeat(1592) + "wor", 1, 1597);
        faulty(" ".repeat(1596) + "tota", 1, 1596);
        answers("total" + " ".repeat(1590) + "words", 20);
        for (String behind : new String[] {"5", "all", "x", ";", ")", "]", "12345", "abcdefghij", "first all"}) {
            marked(1, "total 1 ^" + behind);
            marked(1, "first all ^" + behind);
        }
        for (String asked : new String[] {"first", "last", "often"}) {
            marked(1, asked + "^");
            marked(1, asked + " 1^");
        }
        for (String asked : new String[] {"total", "most", "least"}) {
            marked(1, asked + "^");
            marked(1, asked + " ^all");
            marked(1, asked + " 1^<2");
        }
    }

    private static void blanks() {
        answers("\n often \n number \n< 3\n", 3);
        answers("often number<3 or[all]", 5);
        marked(1, "often number<3^or all");
        marked(1, "often 3^number<3");
        marked(1, "total^5");
        marked(1, "^totalwords");
        marked(1, "total at^0");
        marked(1, "total 1 ^1");
        marked(1, "total ^wor ds");
        for (int octet = 0; octet < 256; octet++) {
            boolean goesOn = octet >= '0' && octet <= '9' || octet == 10 || octet == 32;
            String text = "total 1" + (char) octet;
            if (goesOn) {
                answers(text, octet < '0' ? 5 : 5 * (10 + octet - '0'));
            } else if ("+-*/".indexOf(octet) >= 0) {
                faulty(text, 1, 8);
            } else {
                faulty(text, 1, 7);
            }
        }
    }

    private static void openAtOnce() {
        answers("most " + "(".repeat(6) + "1" + ")".repeat(6), 1);
        marked(4, "most ((((((^(1" + ")".repeat(7));
        answers("often " + "[".repeat(6) + "all" + "]".repeat(6), 5);
        marked(4, "often [[[[[[^[all" + "]".repeat(7));
        answers("often " + "not ".repeat(6) + "all", 5);
        marked(4, "often " + "not ".repeat(6) + "^not all");
        answers("most " + "at ".repeat(6) + "1*0", 0);
        marked(4, "most " + "at ".repeat(6) + "^at 1");
        answers("most " + "has ".repeat(6) + "1*0", 0);
        marked(4, "most " + "has ".repeat(6) + "^has 1");
        answers("most " + "min(1,".repeat(6) + "1" + ")".repeat(6), 1);
        marked(4, "most " + "min(1,".repeat(6) + "max^(1,1)");
        String[] openers = {"(", "[", "not ", "at ", "has ", "min("};
        // the six of them together, and then any of them once more
        answers("often not [at has min((1),2)=1 or all]", 0);
        for (String opener : new String[] {"(", "at ", "has "}) {
            marked(4, "often not not [at has (^" + opener + "1");
            marked(4, "often not [at at has (^" + opener + "1");
        }
        for (String opener : openers) {
            boolean isSum = !opener.equals("[") && !opener.equals("not ");
            String at = opener.equals("min(") ? "min^(" : "^" + opener;
            marked(4, "often not not not [not [" + at + (isSum ? "1" : "all"));
        }
        // what is closed is open no more
        answers("most (1)+(1)+(1)+(1)+(1)+(1)+(1)+(1)", 8);
        answers("most 0*at 1+0*at 1+0*at 1+0*has 1+0*has 1+0*has 1+0*at 1+0*has 1", 0);
        answers("often not all or not all or not all or not all or not all or not all or not all or not all", 0);
        answers("often [all] and [all] and [all] and [all] and [all] and [all] and [all]", 5);
        answers("most min(1,2)+max(1,2)+min(1,2)+max(1,2)+min(1,2)+max(1,2)+min(1,2)", 10);
        // not is open until its FACT ends, at and has until their PART does
        marked(4, "often not not not not not (1)=(^(1))".replace("(^(", "(^(").replace("(1)=(", "(1)=("));
        answers("often not not not not not (1)=(1)", 0);
        answers("often not not not not not not 1=1 and [[[[[[all]]]]]]", 5);
        answers("most at at at at at at 0*0+((((((1))))))", 1);
        answers("most at (at 0)*0+((((((1))))))", 1);
        marked(4, "most at at at at at at ^(0)");
        marked(4, "most (((((at ^(0)");
        answers("most 0*(((((at 0)))))", 0);
        // where none of them may stand it is none that is open
        marked(1, "most ((((((^[1");
        marked(1, "most ((((((^not all");
        marked(1, "most ((((((1^(");
        marked(1, "often [[[[[[all^[");
        marked(1, "most ((((((min^1");
    }

    // ---- promise 35

    private static void tapeGoes() {
        WordEach x = Check.court(Check.COW);
        Check.due("ask", Check.ask(x, "often all"), 5);
        Check.due("the tape is empty", x.end(1), false);
        Check.due("no question", x.ask(), WordEach.NOTHING);
        Check.due("at its length", x.fault(1), 0);
        Check.due("a faulty one", Check.ask(x, "often"), WordEach.NOTHING);
        Check.due("the tape is empty", x.end(1), false);
        Check.due("fed again", x.feed(0x6f667465, 0x6e20616c, 0x6c202020, 0x20202020, 0x20202020), 20);
        Check.due("ask", x.ask(), 5);
        // nothing else changes
        Readings.alike("a question", Readings.of(() -> {
            WordEach y = Readings.usedCourt();
            Check.due("end", y.end(0), true);
            Check.due("ask", Check.ask(y, "total at 0+has 4"), 0 + 5 + 0 + 0 + 8 + 1 + 1 + 0 + 1 + 2);
            Check.due("ask", Check.ask(y, "first x"), WordEach.NOTHING);
            return y;
        }), Readings.of(() -> {
            WordEach y = Readings.usedCourt();
            Check.due("end", y.end(0), true);
            return y;
        }));
    }

    private static void holdsInNone() {
        answers("first not all", -1);
        answers("last not all", -1);
        answers("first words>7", -1);
        answers("last words>7", -1);
        answers("first words>6", 4);
        answers("last words<2", -1);
        answers("often not all", 0);
        answers(new WordEach(), "first all", -1);
        answers(new WordEach(), "last all", -1);
        answers(new WordEach(), "often all", 0);
    }

    private static void nothing() {
        for (String text : new String[] {"", "first", "total", "total x", "most ((((((((1", "least 12345", "often all all"}) {
            WordEach x = Check.court(Check.COW);
            Check.due("ask " + text, Check.ask(x, text), -1000000000000000L);
            Check.due("a fault", x.fault(0) != 0, true);
            for (int what = 0; what < 6; what++) {
                Check.due("asking is never refused", x.status(what), 0);
            }
            Check.due("new object", Check.ask(new WordEach(), text), -1000000000000000L);
        }
        answers("least 0-1", -1);
    }
}
