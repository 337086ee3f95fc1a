import java.util.ArrayList;
import java.util.List;
import java.util.Map;

/** The sentences of Terms I and of promises 1 to 9: texts, their FAULTS, what the COURT has then. */
final class TextSentences {
    private static final String AD = "name a;deed d;";
    private static final String[] KINDS = {"name", "deed", "turn", "both", "either", "empty"};
    private static final String[] SLOTS = {"who", "did", "whom"};
    private static final String[] OWN = {"name", "deed", "turn", "both", "either", "empty", "line", "who", "did", "whom",
        "fact", "witness", "age", "side", "says", "accused", "case"};
    private static final String EACH_KIND = "name a;deed d;turn c;both b;either e;empty f;";
    private static final String WITNESS = "witness w age 5 side 0 says ";

    private TextSentences() {
    }

    static void run() {
        Sentence.section("What it is");
        Sentence.onlyTells("One word from each witness: a court with a grammar nailed to its door, told as a text: words of "
            + "six kinds, lines of the grammar, what happened, witnesses by age and side with the words that each may "
            + "say, who is accused of what, cases.");
        Sentence.says("An object is used for at most 512 calls after it has been made; what later calls answer is free.",
            TextSentences::callsOfAnObject);
        Sentence.section("Terms");
        Sentence.onlyTells("Words are said in a row, one by each; what the row means, from where on it makes no sense, how "
            + "the judge rules by it alone; the fewest words that bring a ruling, in which order, by whom, even though "
            + "one is ill, or one is put between; words that undo it; both sides by turns; what a place decides in cases, "
            + "what a line of the grammar; orders by age, by seat, by lot, how often the truth comes out; odds by chance "
            + "words, what was agreed at the inn; images. I.");
        statements();
        words();
        faults();
        Sentence.says("NONE = -1: There is none; it is refused.", () -> Check.due("NONE", WordEach.NONE, -1));
        Sentence.says("NOTHING = -1000000000000000L: Told where a number below 0 may be one.",
            () -> Check.due("NOTHING", WordEach.NOTHING, -1000000000000000L));
        tapePromises();
        courtPromises();
    }

    private static void statements() {
        Sentence.says("A COURT is a text: { STATEMENT ; } (70 at most):", TextSentences::howManyStatements);
        Sentence.says("name WORD, deed WORD, turn WORD, both WORD, either WORD, empty WORD (KINDS 0 .. 5; 20 WORDS of "
            + "all);", TextSentences::kindsOfWords);
        Sentence.says("line SLOT { SLOT } (SLOTS who, did, whom, each once at most, who and did among them; 6 LINES);",
            TextSentences::linesOfSlots);
        Sentence.says("fact WORD WORD, or fact WORD WORD WORD (a name, a deed, a name; 16 FACTS);",
            TextSentences::factsOfWords);
        Sentence.says("witness WORD age N side N says WORD { WORD } (its own name, which is no WORD; 0 .. 99; 0 or 1; 1 to "
            + "4 unlike WORDS; 7 WITNESSES);", TextSentences::witnesses);
        Sentence.says("accused WORD WORD (a name, a deed; the last one counts);", TextSentences::theAccused);
        Sentence.says("case WORD { WORD } (1 to 8 WORDS; 8 CASES).", TextSentences::casesOfWords);
    }

    private static void words() {
        Sentence.says("WORDS are 1 to 6 letters,", TextSentences::letters);
        Sentence.says("no OWN WORD,", TextSentences::noOwnWord);
        Sentence.says("unlike ones (those of WITNESSES, too),", TextSentences::unlikeWords);
        Sentence.says("told ahead of where they are asked.", TextSentences::toldAhead);
        Sentence.says("OWN WORDS: name, deed, turn, both, either, empty, line, who, did, whom, fact, witness, age, side, "
            + "says, accused, case.", TextSentences::whatIsNoOwnWord);
        Sentence.says("NUMBERS: 1 to 4 digits.", TextSentences::numbers);
        Sentence.says("Blanks (10, 32) are where one likes (words and numbers side by side need one).",
            TextSentences::blanks);
    }

    private static void faults() {
        Sentence.says("FAULTS, the first along the text:", TextSentences::firstAlongTheText);
        Sentence.says("1 the first byte with which no such text goes on (words and numbers whole, at their first byte;",
            TextSentences::noSuchTextGoesOn);
        Sentence.says("where a WORD is asked, an OWN WORD so, a 7th letter at itself;", TextSentences::wordsAsked);
        Sentence.says("a SLOT that was told already, at its first byte;", TextSentences::slotsTwice);
        Sentence.says("where a number is asked, a 5th digit at itself;", TextSentences::fifthDigit);
        Sentence.says("a 5th WORD of a WITNESS, a 9th of a CASE, at its first byte;", TextSentences::oneWordTooMany);
        Sentence.says("of a LINE without who or did at its ;;", TextSentences::lineWithout);
        Sentence.says("at the text's length, if it ends too soon);", TextSentences::endsTooSoon);
        Sentence.says("2 a number that can't be, at it;", TextSentences::numbersThatCantBe);
        Sentence.says("3 a WORD to be given that is there already, one that is none, or none of the KIND that is asked, one "
            + "that a WITNESS says already, at it;", TextSentences::wordFaults);
        Sentence.says("5 one too many of a kind, a 71st STATEMENT (whatever stands there), at its first byte.",
            TextSentences::oneTooMany);
    }

    // ---- statements

    private static String many(int n, String statement) {
        StringBuilder t = new StringBuilder();
        for (int i = 0; i < n; i++) {
            t.append(statement.replace("%", "" + (char) ('g' + i)));
        }
        return t.toString();
    }

    private static void callsOfAnObject() {
        WordEach x = new WordEach();
        for (int call = 1; call < 512; call++) {
            Check.due("call " + call, x.feed(-1, -1, -1, -1, -1), call <= 80 ? 20 * call : -1);
        }
        Check.due("call 512", x.status(0), 511 - 80);
        WordEach y = Check.court(Check.COW);
        for (int call = 33; call <= 511; call += 2) {
            Check.due("say, call " + call, y.say(0, 1), 1);
            Check.due("back, call " + (call + 1), y.back(), true);
        }
    }

    private static void howManyStatements() {
        Check.taken("", 0);
        Check.taken(" ", 0);
        Check.taken("name a;", 1);
        String seventy = AD + many(68, "accused a d;");
        Check.taken(many(1, AD) + many(67, "accused a d;"), 69);
        Check.taken(seventy, 70);
        Check.taken(seventy + "\n ", 70);
        Check.marked(5, seventy + "^accused a d;");
        Check.marked(1, "^;");
        Check.marked(1, "name a;^;");
        Check.marked(1, "name a^");
    }

    private static void kindsOfWords() {
        for (int kind = 0; kind < 6; kind++) {
            Check.due(KINDS[kind], Check.taken(KINDS[kind] + " w;", 1).word(0, 0), kind);
            Check.marked(1, KINDS[kind] + "^");
            Check.marked(1, KINDS[kind] + " ^;");
            Check.marked(1, KINDS[kind] + " v ^w;");
        }
        String nineteen = EACH_KIND + many(13, "either %;");
        Check.due("19 words", Check.taken(nineteen, 19).court(0), 19);
        for (String kind : KINDS) {
            WordEach x = Check.taken(nineteen + kind + " z;", 20);
            Check.due("20 words", x.court(0), 20);
            Check.due("the last one", x.word(19, 10), 26);
            Check.due("none behind it", x.word(20, 10), -1);
            Check.marked(5, nineteen + "empty z;^" + kind + " y;");
        }
    }

    /** All rows of up to four SLOTS, right and wrong. */
    private static void linesOfSlots() {
        for (int row = 0; row < 256; row++) {
            for (int size = 0; size <= 4; size++) {
                if (row >> 2 * size == 0) {
                    lineOf(row, size);
                }
            }
        }
        String six = many(3, "line who did;line did who whom;");
        Check.due("6 lines", Check.taken(six, 6).court(1), 6);
        Check.due("5 lines", Check.taken("line who did;" + many(2, "line did whom who;line whom who did;"), 5).court(1), 5);
        Check.marked(5, six + "^line who did;");
    }

    private static void lineOf(int row, int size) {
        StringBuilder t = new StringBuilder("line");
        int told = 0;
        int fault = -1;
        int[] slots = new int[size];
        for (int k = 0; k < size; k++) {
            slots[k] = row >> 2 * k & 3;
            boolean isWrong = slots[k] == 3 || (told >> slots[k] & 1) == 1;
            fault = fault < 0 && isWrong ? t.length() + 1 : fault;
            told |= 1 << slots[k];
            t.append(' ').append(slots[k] == 3 ? "fact" : SLOTS[slots[k]]);
        }
        fault = fault < 0 && (told & 3) != 3 ? t.length() : fault;
        if (fault >= 0) {
            Check.faulty(t + ";", 1, fault);
            return;
        }
        WordEach x = Check.taken(t + ";", 1);
        for (int k = 0; k <= 3; k++) {
            Check.due(t + " slot " + k, x.grammar(0, k), k < size ? slots[k] : -1);
        }
    }

    private static void factsOfWords() {
        Check.due("a name, a deed", Check.taken(AD + "fact a d;", 3).court(2), 1);
        Check.due("and a name", Check.taken(AD + "fact a d a;", 3).court(2), 1);
        Check.marked(1, AD + "fact^");
        Check.marked(1, AD + "fact ^;");
        Check.marked(1, AD + "fact a^;");
        Check.marked(1, AD + "fact a d a ^a;");
        Check.marked(1, AD + "fact a d a ^d;");
        for (char word : "dcbef".toCharArray()) {
            Check.marked(3, EACH_KIND + "fact ^" + word + " d;");
            Check.marked(3, EACH_KIND + "fact a d ^" + word + ";");
        }
        for (char word : "acbef".toCharArray()) {
            Check.marked(3, EACH_KIND + "fact a ^" + word + ";");
        }
        Check.due("15 facts", Check.taken(AD + many(15, "fact a d;"), 17).court(2), 15);
        Check.due("16 facts", Check.taken(AD + many(16, "fact a d a;"), 18).court(2), 16);
        Check.marked(5, AD + many(16, "fact a d;") + "^fact a d;");
    }

    private static void witnesses() {
        WordEach x = Check.taken(AD + WITNESS + "a;", 3);
        Check.due("his name is no word", x.court(0), 2);
        Check.due("his name", x.bench(0, 20), 23);
        Check.marked(3, AD + "witness w age 5 side 0 says ^w;");
        Check.marked(3, AD + WITNESS + "a;case ^w;");
        Check.marked(3, AD + WITNESS + "a;fact ^w d;");
        Check.marked(3, AD + WITNESS + "a;accused ^w d;");
        for (int age : new int[] {0, 1, 9, 10, 98, 99}) {
            x = Check.taken(AD + "witness w age " + age + " side 0 says a;", 3);
            Check.due("age", x.bench(0, 0), age);
        }
        Check.marked(2, AD + "witness w age ^100 side 0 says a;");
        for (int side = 0; side < 2; side++) {
            Check.due("side", Check.taken(AD + "witness w age 5 side " + side + " says a;", 3).bench(0, 1), side);
        }
        Check.marked(2, AD + "witness w age 5 side ^2 says a;");
        witnessesSay();
        witnessesInOrder();
        String seven = AD + many(7, "witness % age 1 side 0 says a;");
        Check.due("6 witnesses", Check.taken(AD + many(6, "witness % age 1 side 0 says a;"), 8).court(3), 6);
        Check.due("7 witnesses", Check.taken(seven, 9).court(3), 7);
        Check.marked(5, seven + "^witness z age 1 side 0 says a;");
    }

    private static void witnessesSay() {
        String[] said = {"a", "a d", "a d c", "f a d c"};
        for (int n = 1; n <= 4; n++) {
            WordEach x = Check.taken(EACH_KIND + WITNESS + said[n - 1] + ";", 7);
            Check.due("how many words", x.bench(0, 2), n);
            Check.due("the last one", x.bench(0, 9 + n), n == 4 ? 2 : n - 1);
            Check.due("none behind it", x.bench(0, 10 + n), -1);
        }
        Check.marked(1, EACH_KIND + "witness w age 5 side 0 says^;");
        Check.marked(1, EACH_KIND + WITNESS + "a d c b ^e;");
        Check.marked(3, EACH_KIND + WITNESS + "a ^a;");
        Check.marked(3, EACH_KIND + WITNESS + "a d c ^a;");
        Check.marked(3, EACH_KIND + WITNESS + "a d c ^c;");
    }

    private static void witnessesInOrder() {
        Check.marked(1, AD + "witness^;");
        Check.marked(1, AD + "witness ^5;");
        Check.marked(1, AD + "witness w^;");
        Check.marked(1, AD + "witness w ^side 0 age 5 says a;");
        Check.marked(1, AD + "witness w ^says a age 5 side 0;");
        Check.marked(1, AD + "witness w age 5 ^says a side 0;");
        Check.marked(1, AD + "witness w age 5 ^;");
        Check.marked(1, AD + "witness w age 5 side 0^;");
        Check.marked(1, AD + "witness w age 5 side 0 ^a;");
        Check.marked(1, AD + "witness w age ^side 0 says a;");
        Check.marked(1, AD + "witness w age 5 side ^says a;");
    }

    private static void theAccused() {
        WordEach x = Check.taken(AD + "name aa;deed dd;accused a d;accused aa d;accused a dd;", 7);
        Check.due("who is accused last", x.court(7), 0);
        Check.due("of what", x.court(8), 3);
        Check.due("no accused", Check.taken(AD, 2).court(7), -1);
        Check.due("no deed", Check.taken(AD, 2).court(8), -1);
        Check.marked(1, AD + "accused^;");
        Check.marked(1, AD + "accused a^;");
        Check.marked(1, AD + "accused a d ^a;");
        for (char word : "dcbef".toCharArray()) {
            Check.marked(3, EACH_KIND + "accused ^" + word + " d;");
        }
        for (char word : "acbef".toCharArray()) {
            Check.marked(3, EACH_KIND + "accused a ^" + word + ";");
        }
    }

    private static void casesOfWords() {
        for (int n = 1; n <= 8; n++) {
            WordEach x = Check.taken(EACH_KIND + "case" + " a d c b e f a a".substring(0, 2 * n) + ";", 7);
            Check.due("words of a case", x.instance(0, 2), n);
        }
        Check.marked(1, EACH_KIND + "case^;");
        Check.marked(1, EACH_KIND + "case a d c b e f a a ^a;");
        Check.due("7 cases", Check.taken(AD + many(7, "case a;"), 9).court(4), 7);
        Check.due("8 cases", Check.taken(AD + many(8, "case a;"), 10).court(4), 8);
        Check.marked(5, AD + many(8, "case a;") + "^case a;");
    }

    // ---- words, numbers, blanks

    private static void letters() {
        for (int n = 1; n <= 6; n++) {
            String word = "azbycx".substring(0, n);
            WordEach x = Check.taken("name " + word + ";name g;witness " + "zaybxc".substring(0, n)
                + " age 1 side 0 says " + word + ";", 3);
            for (int k = 0; k < 6; k++) {
                Check.due("letter " + k, x.word(0, 10 + k), k < n ? word.charAt(k) - 'a' + 1 : 0);
                Check.due("witness's letter " + k, x.bench(0, 20 + k), k < n ? "zaybxc".charAt(k) - 'a' + 1 : 0);
            }
            Check.due("how many witnesses may say it", x.word(0, 1), 1);
        }
        Check.marked(1, "name azbycx^a;");
        Check.marked(1, AD + "witness azbycx^w age 1 side 0 says a;");
        Check.marked(1, "name ^;");
        for (int octet = 0; octet < 256; octet++) {
            boolean isBlank = octet == 10 || octet == 32;
            if (octet >= 'a' && octet <= 'z') {
                Check.due("letter", Check.taken("name " + (char) octet + ";", 1).word(0, 10), octet - 96);
                Check.due("letter", Check.taken("name g" + (char) octet + ";", 1).word(0, 11), octet - 96);
            } else if (!isBlank && octet != ';') {
                Check.faulty("name " + (char) octet + ";", 1, 5);
                Check.faulty("name g" + (char) octet + ";", 1, 6);
            }
        }
    }

    /** Every place where a WORD is asked: to be given, or told ahead. */
    private static final String[] WORDS_ASKED = {"name ^;", "deed ^;", "turn ^;", "both ^;", "either ^;", "empty ^;",
        "fact ^ d;", "fact a ^;", "fact a d ^;", "witness ^ age 1 side 0 says a;", "witness w age 1 side 0 says ^;",
        "witness w age 1 side 0 says a ^;", "witness w age 1 side 0 says a d u ^;", "accused ^ d;", "accused a ^;",
        "case ^;", "case a ^;", "case a a a a a a a ^;"};

    private static void noOwnWord() {
        for (String asked : WORDS_ASKED) {
            for (String own : OWN) {
                Check.marked(1, AD + "turn u;" + asked.replace("^", "^" + own));
            }
        }
    }

    private static void whatIsNoOwnWord() {
        List<String> own = List.of(OWN);
        for (String word : OWN) {
            String shorter = word.substring(0, word.length() - 1);
            for (String near : new String[] {shorter, word.substring(1), word + "x", "x" + word}) {
                if (near.length() <= 6 && !own.contains(near)) {
                    Check.taken("name " + near + ";case " + near + ";", 2);
                }
            }
        }
        for (String word : new String[] {"first", "not", "all", "and", "or", "min", "at", "has", "words", "to"}) {
            Check.taken("name " + word + ";", 1);
        }
    }

    private static void unlikeWords() {
        for (String first : KINDS) {
            for (String second : KINDS) {
                Check.marked(3, first + " same;" + second + " ^same;");
            }
            Check.marked(3, AD + WITNESS + "a;" + first + " ^w;");
            Check.marked(3, AD + first + " w;witness ^w age 1 side 0 says a;");
        }
        Check.marked(3, AD + WITNESS + "a;witness ^w age 6 side 1 says d;");
        Check.marked(3, AD + WITNESS + "a;witness v age 1 side 0 says a;witness ^v age 6 side 1 says d;");
        Check.taken("name a;name aa;name aaa;name ab;name ba;name b;", 6);
        Check.taken("name aaaaaa;name aaaaa;name baaaaa;name aaaaab;", 4);
    }

    private static void toldAhead() {
        Check.marked(3, "case ^a;name a;");
        Check.marked(3, "deed d;fact ^a d;name a;");
        Check.marked(3, "name a;fact a ^d;deed d;");
        Check.marked(3, "name a;accused a ^d;deed d;");
        Check.marked(3, "name a;deed d;" + WITNESS + "a ^u;turn u;");
        Check.taken("line who did;name a;case a;deed d;fact a d;turn u;case u;", 7);
        Check.marked(3, AD + "fact a d ^aa;name aa;");
    }

    private static void numbers() {
        String[] fives = {"5", "05", "005", "0005"};
        for (String five : fives) {
            Check.due("age " + five, Check.taken(AD + "witness w age " + five + " side 0 says a;", 3).bench(0, 0), 5);
        }
        Check.due("side 0001", Check.taken(AD + "witness w age 0 side 0001 says a;", 3).bench(0, 1), 1);
        Check.due("age 0099", Check.taken(AD + "witness w age 0099 side 0000 says a;", 3).bench(0, 0), 99);
        Check.marked(1, AD + "witness w age 0000^5 side 0 says a;");
        Check.marked(1, AD + "witness w age 0000^51 side 0 says a;");
        Check.marked(1, AD + "witness w age ^-5 side 0 says a;");
        Check.marked(1, AD + "witness w age ^+5 side 0 says a;");
        Check.marked(1, AD + "witness w age 5^.0 side 0 says a;");
        Check.marked(1, AD + "witness w age ^;");
        for (int octet = 0; octet < 256; octet++) {
            boolean isBlank = octet == 10 || octet == 32;
            if (octet >= '0' && octet <= '9') {
                WordEach x = Check.taken(AD + "witness w age " + (char) octet + " side 0 says a;", 3);
                Check.due("digit", x.bench(0, 0), octet - '0');
            } else if (!isBlank) {
                Check.faulty(AD + "witness w age " + (char) octet + " side 0 says a;", 1, 28);
                Check.faulty(AD + "witness w age 1" + (char) octet + " side 0 says a;", 1, 29);
            }
        }
    }

    private static final String[] TIGHT = {"name", " ", "a", ";", "deed", " ", "d", ";", "line", " ", "who", " ", "did", ";",
        "fact", " ", "a", " ", "d", ";", "witness", " ", "w", " ", "age", " ", "5", " ", "side", " ", "1", " ", "says", " ",
        "a", " ", "d", ";", "accused", " ", "a", " ", "d", ";", "case", " ", "a", " ", "d", ";"};

    private static void blanks() {
        Check.taken(String.join("", TIGHT), 7);
        Check.taken("\n" + String.join("\n \n", TIGHT) + "\n\n", 7);
        for (int octet = 0; octet < 256; octet++) {
            String sign = "" + (char) octet;
            if (octet == 10 || octet == 32) {
                Check.taken(sign + "name" + sign + "g" + sign + ";" + sign, 1);
            } else {
                boolean isLetter = octet >= 'a' && octet <= 'z';
                // a letter behind the word makes it another one, a sign of any other kind comes too soon
                Check.faulty("name" + sign, 1, isLetter ? 0 : 4);
                if (octet != ';') {
                    Check.faulty("name g;" + sign, 1, 7);
                }
            }
        }
        besideOneAnother();
    }

    private static void besideOneAnother() {
        Check.marked(1, "^namea;");
        Check.marked(1, "name^1;");
        Check.marked(1, "name a^1;");
        Check.marked(1, "^na me a;");
        Check.marked(1, "name a ^b;");
        Check.marked(1, AD + "line ^whodid;");
        Check.marked(1, AD + "line who^1;");
        Check.marked(3, AD + "fact ^ad;");
        Check.marked(1, AD + "witness w age^5 side 1 says a;");
        Check.marked(1, AD + "witness w age 5^side 1 says a;");
        Check.marked(1, AD + "witness w age 5 side^1 says a;");
        Check.marked(1, AD + "witness w age 5 side 1^says a;");
        Check.marked(1, AD + "witness w ^age5side1;".replace("^age5", "age^5"));
        Check.marked(1, AD + "witness w age 1 ^0 side 1 says a;");
        Check.marked(1, AD + "case a^1;");
    }

    // ---- faults

    private static void firstAlongTheText() {
        Check.marked(3, "name a;name ^a;x");
        Check.marked(1, "name a;^x;name a;");
        Check.marked(2, AD + "witness w age ^100 side 2 says x");
        Check.marked(2, AD + "witness w age ^9999 side ;");
        Check.marked(1, AD + "witness w age 99 ^sides 2 says x");
        Check.marked(3, AD + "witness ^a age 100");
        Check.marked(5, AD + many(8, "case a;") + "^case x y name;");
        Check.marked(3, AD + many(7, "case a;") + "case ^x;case a;case a;");
        Check.marked(5, many(20, "name %;") + "^name h;");
        Check.marked(1, AD + "line who ^who who;line;");
        Check.marked(5, AD + many(6, "line who did;") + "^line;?");
        Check.marked(3, AD + "fact a ^x name;");
    }

    /** A text, token by token: o an OWN WORD, g a WORD to be given, a a WORD asked, n a number, s a sign. */
    private static final String[] TOKENS = {"oname", "ghe", "s;", "odeed", "ghit", "s;", "oline", "owho", "odid", "owhom",
        "s;", "ofact", "ahe", "ahit", "ahe", "s;", "owitness", "gann", "oage", "n45", "oside", "n01", "osays", "ahe", "ahit",
        "s;", "oaccused", "ahe", "ahit", "s;", "ocase", "ahe", "ahit", "s;"};

    private static String textOfTokens() {
        StringBuilder t = new StringBuilder();
        for (String token : TOKENS) {
            t.append(token.substring(1)).append(' ');
        }
        return t.toString();
    }

    /** The text is cut short, and spoiled by a ?, at each of its places. */
    private static void noSuchTextGoesOn() {
        String text = textOfTokens();
        int at = 0;
        int statements = 0;
        boolean isBetween = true;
        for (String token : TOKENS) {
            int end = at + token.length() - 1;
            for (int n = at; n <= end; n++) {
                boolean isInside = n > at && n < end;
                boolean isWhole = token.charAt(0) == 'o' || token.charAt(0) == 'a';
                int fault = isInside && token.charAt(0) == 'a' ? 3 : 1;
                int place = isInside && isWhole ? at : n;
                if (isBetween && n == at) {
                    Check.taken(text.substring(0, n), statements);
                } else if (token.equals("s;") && n == end) {
                    Check.taken(text.substring(0, n), statements + 1);
                } else {
                    Check.faulty(text.substring(0, n), fault, place);
                }
                Check.faulty(text.substring(0, n) + "?" + text.substring(n), fault, place);
                Check.faulty(text.substring(0, n) + (char) 200 + text.substring(n), fault, place);
            }
            isBetween = token.equals("s;");
            statements += isBetween ? 1 : 0;
            at = end + 1;
        }
        Check.taken(text, 7);
        Check.marked(1, "^nome he;");
        Check.marked(1, "^names he;");
        Check.marked(1, "^12 he;");
        Check.marked(1, "^Name he;");
        Check.marked(1, "^he;");
        Check.marked(1, "^age 5;");
        Check.marked(1, "^who did;");
    }

    private static void wordsAsked() {
        for (String asked : WORDS_ASKED) {
            Check.marked(1, AD + "turn u;" + asked.replace("^", "abcdef^g"));
            Check.marked(1, AD + "turn u;" + asked.replace("^", "abcdef^ghijklmnopqrst"));
            Check.marked(1, AD + "turn u;" + asked.replace("^", "nameof^witnesses"));
            Check.marked(1, AD + "turn u;" + asked.replace("^", "^witness"));
            Check.marked(1, AD + "turn u;" + asked.replace("^", "^accused"));
            Check.marked(1, AD + "turn u;" + asked.replace("^", "^7"));
            Check.marked(1, AD + "turn u;" + asked.replace("^", "^?"));
        }
        // six letters are a WORD: none, where one is asked
        Check.marked(3, AD + "case ^abcdef;");
        Check.marked(3, AD + "fact a d ^abcdef;");
        Check.taken("name abcdef;case abcdef;", 2);
    }

    private static void slotsTwice() {
        Check.marked(1, "line who ^who did;");
        Check.marked(1, "line did ^did who;");
        Check.marked(1, "line whom ^whom who did;");
        Check.marked(1, "line who did ^who;");
        Check.marked(1, "line who did whom ^whom;");
        Check.marked(1, "line who did whom ^did;");
        Check.marked(1, "line who whom ^who");
    }

    private static void fifthDigit() {
        Check.marked(1, AD + "witness w age 0000^0 side 0 says a;");
        Check.marked(1, AD + "witness w age 1234^56 side 0 says a;");
        Check.marked(1, AD + "witness w age 9999^9");
        Check.marked(1, AD + "witness w age 5 side 0000^0 says a;");
        Check.marked(1, AD + "witness w age 5 side 1111^1;");
        // where no number is asked, it is wrong from its first digit on
        Check.marked(1, AD + "witness w age 5 ^12345");
        Check.marked(1, AD + "case a ^12345");
        Check.marked(1, "^12345");
    }

    private static void oneWordTooMany() {
        String four = EACH_KIND + WITNESS + "a d c b ";
        String eight = EACH_KIND + "case a a a a a a a a ";
        for (String behind : new String[] {four, eight}) {
            for (String word : new String[] {"e", "a", "x", "who", "abcdefgh", "7"}) {
                Check.marked(1, behind + "^" + word + ";");
            }
            Check.taken(behind + ";", 7);
        }
    }

    private static void lineWithout() {
        Check.marked(1, "line^;");
        Check.marked(1, "line who^;");
        Check.marked(1, "line did ^;");
        Check.marked(1, "line whom\n^;");
        Check.marked(1, "line who whom^;");
        Check.marked(1, "line whom who^;");
        Check.marked(1, "line did whom^;");
        Check.marked(1, "line whom did^;");
    }

    private static void endsTooSoon() {
        String[] soon = {"name", "name ", "name a", "name a \n ", "line", "line who", "line who did", "line who whom ",
            AD + "fact", AD + "fact a", AD + "fact a d", AD + "fact a d a", AD + "witness", AD + "witness w",
            AD + "witness w age", AD + "witness w age 5", AD + "witness w age 5 side", AD + "witness w age 5 side 0",
            AD + "witness w age 5 side 0 says", AD + WITNESS + "a", AD + WITNESS + "a d ", AD + "accused",
            AD + "accused a", AD + "accused a d", AD + "case", AD + "case a", AD + "case a a a a a a a a"};
        for (String text : soon) {
            Check.faulty(text, 1, text.length());
        }
        StringBuilder full = new StringBuilder("name a");
        while (full.length() < 1600) {
            full.append(' ');
        }
        Check.faulty(full.toString(), 1, 1600);
        full.setCharAt(1599, ';');
        Check.taken(full.toString(), 1);
        Check.faulty(" ".repeat(1597) + "nam", 1, 1597);
        Check.faulty(" ".repeat(1596) + "name", 1, 1600);
        Check.faulty(" ".repeat(1591) + "line whom", 1, 1600);
        Check.faulty(" ".repeat(1592) + "line who", 1, 1600);
        Check.faulty("name a" + " ".repeat(1587) + ";name a", 3, 1599);
    }

    private static void numbersThatCantBe() {
        for (String age : new String[] {"100", "0100", "101", "999", "9999", "1000"}) {
            Check.marked(2, AD + "witness w age ^" + age + " side 0 says a;");
        }
        for (String side : new String[] {"2", "02", "9", "10", "100", "9999"}) {
            Check.marked(2, AD + "witness w age 5 side ^" + side + " says a;");
        }
    }

    private static void wordFaults() {
        Check.marked(3, "name a;name ^a;");
        Check.marked(3, AD + "witness ^d age 1 side 0 says a;");
        Check.marked(3, AD + WITNESS + "a;turn ^w;");
        Check.marked(3, "case ^a;");
        Check.marked(3, AD + "accused a ^x;");
        Check.marked(3, AD + WITNESS + "^x;");
        Check.marked(3, AD + "fact ^d a;");
        Check.marked(3, AD + "fact a d ^d;");
        Check.marked(3, AD + WITNESS + "d a ^d;");
        // what a second WITNESS says, one may have said before him; and a CASE may say a WORD twice
        Check.taken(AD + WITNESS + "a d;witness v age 1 side 0 says d a;case d d;", 5);
    }

    private static void oneTooMany() {
        String words = many(19, "turn %;");
        for (String kind : KINDS) {
            Check.marked(5, words + "name a;\n ^" + kind + " b;");
            Check.marked(5, words + "name a;^" + kind);
        }
        Check.marked(5, AD + many(6, "line who did;") + " ^line who did;");
        Check.marked(5, AD + many(16, "fact a d;") + "^fact");
        Check.marked(5, AD + many(7, "witness % age 1 side 0 says a;") + "^witness a");
        Check.marked(5, AD + many(8, "case a;") + "\n^case");
        String seventy = AD + many(68, "accused a d;");
        for (String stands : new String[] {"name b;", "x", "?", ";", "7", "accused a d;", "\u0000", "abcdefghi", "case a;"}) {
            Check.marked(5, seventy + "^" + stands);
            Check.marked(5, seventy + " \n^" + stands);
        }
    }

    // ---- promises 1 to 5

    private static void tapePromises() {
        Sentence.section("Promise 1");
        Sentence.says("No WORDS, LINES, WITNESSES.", TextSentences::newObject);
        Sentence.section("Promise 2");
        Sentence.says("Twenty bytes come behind those on the tape, of each number the highest first: how many there are;",
            TextSentences::twentyBytes);
        Sentence.says("NONE, refused (0), if there would be more than 1600.", TextSentences::fullTape);
        Sentence.section("Promise 3");
        Sentence.says("The tape has its first n bytes alone: true;", TextSentences::firstBytesAlone);
        Sentence.says("false, refused (0), if it has not so many, or n is below 0.", TextSentences::noSuchEnd);
        Sentence.section("Promise 4");
        Sentence.says("The tape (it goes) is THE COURT: how many STATEMENTS;", TextSentences::tapeGoes);
        Sentence.says("NONE, refused (1), with a FAULT (all stays).", TextSentences::faultyText);
        Sentence.says("Without one nobody has spoken, all LINES are in force; the seed stays.", TextSentences::newCourt);
        Sentence.section("Promise 5");
        Sentence.says("Of the latest text() or ask(): its FAULT (what 0; 0 without, and ahead of any), its place (1; NONE "
            + "without).", TextSentences::latestFault);
        Sentence.says("NONE for another what.", () -> {
            WordEach x = Readings.usedCourt();
            for (int what : new int[] {-1, 2, 3, Integer.MIN_VALUE, Integer.MAX_VALUE}) {
                Check.due("fault " + what, x.fault(what), -1);
            }
        });
    }

    private static void newObject() {
        WordEach x = new WordEach();
        int[] due = {0, 0, 0, 0, 0, 0, 0, -1, -1};
        for (int what = 0; what < due.length; what++) {
            Check.due("court " + what, x.court(what), due[what]);
        }
        Check.due("word", x.word(0, 0), -1);
        Check.due("grammar", x.grammar(0, 0), -1);
        Check.due("bench", x.bench(0, 0), -1);
        Check.due("the tape is empty", x.end(1), false);
        Check.due("the tape is empty", x.end(0), true);
        Check.due("an empty text", x.text(), 0);
        // an object that was told an empty text is as a new one
        Readings.alike("an empty text", Readings.of(() -> {
            WordEach y = Check.court(Check.COW);
            y.say(0, 0);
            Check.due("text", y.text(), 0);
            return y;
        }), Readings.of(WordEach::new));
    }

    private static void twentyBytes() {
        WordEach x = new WordEach();
        // "name abcdef;deed gh;" as five numbers, then its second half behind a first one
        Check.due("feed", x.feed(0x6e616d65, 0x20616263, 0x6465663b, 0x64656564, 0x2067683b), 20);
        Check.due("feed", x.feed(0x7475726e, 0x20693b0a, 0x20202020, 0x20202020, 0x2020203f), 40);
        Check.due("text", x.text(), -1);
        Check.due("the last byte", x.fault(1), 39);
        Check.due("feed", x.feed(0x6e616d65, 0x20616263, 0x6465663b, 0x64656564, 0x2067683b), 20);
        Check.due("text", x.text(), 2);
        for (int k = 0; k < 6; k++) {
            Check.due("letter " + k, x.word(0, 10 + k), k + 1);
        }
        Check.due("the second word", x.word(1, 11), 8);
        for (int byteAt = 0; byteAt < 20; byteAt++) {
            int[] n = {0x20202020, 0x20202020, 0x20202020, 0x20202020, 0x20202020};
            int shift = 24 - 8 * (byteAt % 4);
            n[byteAt / 4] = n[byteAt / 4] & ~(255 << shift) | 200 << shift;
            Check.due("feed", x.feed(n[0], n[1], n[2], n[3], n[4]), 20);
            Check.due("text", x.text(), -1);
            Check.due("the only byte that is no blank", x.fault(1), byteAt);
        }
        for (int n = 1; n <= 80; n++) {
            Check.due("feed " + n, x.feed(n, -n, 0, Integer.MIN_VALUE, Integer.MAX_VALUE), 20 * n);
        }
    }

    private static WordEach filled(int bytes) {
        WordEach x = Check.court(Check.COW);
        for (int n = 20; n < bytes + 20; n += 20) {
            Check.due("feed", x.feed(0x20202020, 0x20202020, 0x20202020, 0x20202020, 0x20202020), n);
        }
        Check.due("end", x.end(bytes), true);
        return x;
    }

    private static void fullTape() {
        for (int bytes : new int[] {1581, 1590, 1599, 1600}) {
            Readings.refused("feed behind " + bytes, () -> filled(bytes), x -> x.feed(1, 2, 3, 4, 5), -1, 0);
        }
        Check.due("feed behind 1580", filled(1580).feed(1, 2, 3, 4, 5), 1600);
        Check.due("feed behind 1579", filled(1579).feed(1, 2, 3, 4, 5), 1599);
        WordEach x = filled(1580);
        Check.due("to the edge", x.feed(0x20202020, 0x20202020, 0x20202020, 0x20202020, 0x20202020), 1600);
        Check.due("over it", x.feed(-1, -1, -1, -1, -1), -1);
        Check.due("text", x.text(), 0);
        Check.due("there is room again", x.feed(0, 0, 0, 0, 0), 20);
        Check.due("refused", x.status(0), 1);
    }

    private static void firstBytesAlone() {
        for (int n = 0; n <= 40; n++) {
            WordEach x = new WordEach();
            Check.put(x, "name a;name b;name c;name d;name e;name f");
            Check.due("end " + n, x.end(n), true);
            Check.due("more than there are", x.end(n + 1), false);
            Check.due("text", x.text(), n % 7 == 0 ? n / 7 : -1);
            Check.due("place", x.fault(1), n % 7 == 0 ? -1 : n % 7 < 4 ? n - n % 7 : n);
        }
        WordEach x = new WordEach();
        Check.due("end 0 of none", x.end(0), true);
        Check.put(x, "name a;?");
        Check.due("all of them", x.end(8), true);
        Check.due("all but the last", x.end(7), true);
        Check.due("behind those that are left", x.feed(0x6e616d65, 0x20623b20, 0x20202020, 0x20202020, 0x20202020), 27);
        Check.due("text", x.text(), 2);
        Check.due("refused", x.status(0), 0);
    }

    private static void noSuchEnd() {
        for (int n : new int[] {30, 31, 1600, 1601, Integer.MAX_VALUE, -1, -29, Integer.MIN_VALUE}) {
            Readings.refused("end " + n, Readings::usedCourt, x -> x.end(n) ? 1 : 0, 0, 0);
        }
        for (int n : new int[] {1, -1}) {
            Readings.refused("end " + n + " of none", WordEach::new, x -> x.end(n) ? 1 : 0, 0, 0);
        }
        Check.due("end 1601", filled(1600).end(1601), false);
        Check.due("end 1600", filled(1600).end(1600), true);
    }

    private static void tapeGoes() {
        WordEach x = new WordEach();
        Check.due("text", Check.text(x, "name a;"), 1);
        Check.due("the tape is empty", x.end(1), false);
        Check.due("an empty text", x.text(), 0);
        Check.due("no words are left", x.court(0), 0);
        Check.due("a faulty text", Check.text(x, "name"), -1);
        Check.due("the tape is empty", x.end(1), false);
        Check.due("text", Check.text(x, Check.COW), 23);
        Check.due("words", x.court(0), 9);
        Check.due("a smaller one", Check.text(x, "name z;line did who;"), 2);
        int[] due = {1, 1, 0, 0, 0, 0, 1, -1, -1};
        for (int what = 0; what < due.length; what++) {
            Check.due("of the first court nothing is left: " + what, x.court(what), due[what]);
        }
    }

    /** Of a COURT with something in each corner only FAULT, its place, the count and the tape are others. */
    private static void faultyText() {
        String[] faulty = {"name^", "name a;name ^a;", "name a;deed d;line who did;line who ^who;",
            "name a;witness w age ^100", many(20, "name %;") + "^name", Check.COW + "^x"};
        int[] faults = {1, 3, 1, 2, 5, 1};
        for (int i = 0; i < faulty.length; i++) {
            String text = faulty[i].replace("^", "");
            int place = faulty[i].indexOf('^');
            Map<String, Long> due = Readings.of(() -> {
                WordEach x = Readings.usedCourt();
                Check.due("end", x.end(0), true);
                return x;
            });
            due.put("status 1", 1L);
            due.put("fault 0", (long) faults[i]);
            due.put("fault 1", (long) place);
            Readings.alike("text " + text, Readings.of(() -> {
                WordEach x = Readings.usedCourt();
                Check.due("end", x.end(0), true);
                Check.due("text", Check.text(x, text), -1);
                return x;
            }), due);
        }
    }

    private static void newCourt() {
        WordEach x = Readings.usedCourt();
        Check.due("end", x.end(0), true);
        Check.due("text", Check.text(x, Check.COW), 23);
        Check.due("nobody has spoken", x.court(5), 0);
        Check.due("he may speak", x.bench(2, 3), -1);
        Check.due("all lines are in force", x.court(6), 3);
        Check.due("six lines are in force", Check.taken(AD + many(6, "line who did;"), 8).court(6), 63);
        Check.due("no fault", x.fault(0), 0);
        Check.due("no place", x.fault(1), -1);
        String two = "name he;deed hit;line who did;accused he hit;fact he hit;"
            + "witness a age 1 side 0 says hit;witness b age 1 side 0 says he;";
        for (int seed : new int[] {2, 77, 123456789}) {
            WordEach told = Check.court(two);
            WordEach again = Check.court(two);
            Check.due("seed", told.seed(seed), true);
            Check.due("seed", again.seed(seed), true);
            Check.due("text", Check.text(again, "name he;"), 1);
            Check.due("text", Check.text(again, two), 7);
            for (int i = 0; i < 30; i++) {
                Check.due("lots " + i, again.lots(1), told.lots(1));
            }
        }
    }

    private static void latestFault() {
        WordEach x = new WordEach();
        faultIs(x, 0, -1);
        Check.due("ask", Check.ask(x, "first 1234567"), WordEach.NOTHING);
        faultIs(x, 1, 10);
        Check.due("text", Check.text(x, "name a;name a;"), -1);
        faultIs(x, 3, 12);
        Check.due("ask", Check.ask(x, "total 1"), 0);
        faultIs(x, 0, -1);
        Check.due("text", Check.text(x, ";"), -1);
        faultIs(x, 1, 0);
        Check.due("text", Check.text(x, "name a;"), 1);
        faultIs(x, 0, -1);
        Check.due("ask", Check.ask(x, "total (((((((1"), WordEach.NOTHING);
        faultIs(x, 4, 12);
        // what is neither text() nor ask() leaves it
        Check.due("restore", x.restore(), false);
        Check.due("say", x.say(0, 0), -1);
        faultIs(x, 4, 12);
        Check.due("text", Check.text(x, AD + "witness w age 100"), -1);
        faultIs(x, 2, 28);
        Check.due("text", x.text(), 0);
        faultIs(x, 0, -1);
    }

    private static void faultIs(WordEach x, int fault, int place) {
        Check.due("fault", x.fault(0), fault);
        Check.due("place", x.fault(1), place);
    }

    // ---- promises 6 to 9

    private static void courtPromises() {
        Sentence.section("Promise 6");
        Sentence.says("How many there are: 0 WORDS, 1 LINES, 2 FACTS, 3 WITNESSES, 4 CASES, 5 WORDS in THE ROW, 6 LINES in "
            + "force (bits), 7 the accused (a WORD's number, NONE without), 8 the deed.", TextSentences::howMany);
        Sentence.says("NONE for others.", () -> {
            for (int what : new int[] {-1, 9, 10, Integer.MIN_VALUE, Integer.MAX_VALUE}) {
                Check.due("court " + what, Readings.usedCourt().court(what), -1);
            }
        });
        Sentence.section("Promise 7");
        Sentence.says("Of a WORD: 0 its KIND, 1 how many WITNESSES may say it, 2 how often it is in THE ROW, 10 and k (0 .. "
            + "5) its letter k, 1 .. 26 (0 behind it).", TextSentences::wordsTold);
        Sentence.says("NONE when there is none such, or for others.", TextSentences::noSuchWord);
        Sentence.section("Promise 8");
        Sentence.says("Of a WITNESS: 0 age, 1 side, 2 how many WORDS, 3 at which place of THE ROW he has spoken (NONE not), "
            + "10 and k his k-th WORD, 20 and k (0 .. 5) letter k of his name.", TextSentences::benchTold);
        Sentence.says("NONE when there is none such, or for others.", TextSentences::noSuchWitness);
        Sentence.section("Promise 9");
        Sentence.says("SLOT k of a LINE: 0 who, 1 did, 2 whom; NONE when there is none such.", TextSentences::slotsTold);
    }

    private static void howMany() {
        WordEach x = Check.court("name aa;" + EACH_KIND + many(13, "turn %;")
            + many(6, "line who did;") + many(16, "fact aa d;") + "accused a d;"
            + many(7, "witness w% age 1 side 0 says a;") + many(8, "case a;"));
        int[] due = {20, 6, 16, 7, 8, 0, 63, 1, 2};
        for (int what = 0; what < due.length; what++) {
            Check.due("court " + what, x.court(what), due[what]);
        }
        for (int witness = 0; witness < 7; witness++) {
            Check.due("say", x.say(witness, 0), witness + 1);
            Check.due("words in the row", x.court(5), witness + 1);
        }
        for (int line = 0; line < 6; line++) {
            Check.due("line", x.line(line, false), true);
            Check.due("lines in force", x.court(6), 63 & -2 << line);
        }
        Check.due("of all still", x.court(1), 6);
        Check.due("back", x.back(), true);
        Check.due("words in the row", x.court(5), 6);
    }

    private static void wordsTold() {
        StringBuilder t = new StringBuilder("name az;deed abcdef;");
        for (int i = 0; i < 7; i++) {
            t.append("witness w").append((char) ('a' + i)).append(" age 1 side 0 says ").append(i == 0 ? "abcdef;" : "az;");
        }
        WordEach x = Check.court(t.toString());
        Check.due("kind", x.word(0, 0), 0);
        Check.due("kind", x.word(1, 0), 1);
        Check.due("six may say it", x.word(0, 1), 6);
        Check.due("one may say it", x.word(1, 1), 1);
        for (int said = 0; said < 7; said++) {
            Check.due("how often in the row", x.word(0, 2), said);
            Check.due("the other one", x.word(1, 2), 0);
            Check.due("say", x.say((said + 1) % 7, 0), said + 1);
        }
        Check.due("how often in the row", x.word(0, 2), 6);
        Check.due("the other one", x.word(1, 2), 1);
        for (int k = 0; k < 6; k++) {
            Check.due("letter " + k, x.word(0, 10 + k), k == 0 ? 1 : k == 1 ? 26 : 0);
            Check.due("letter " + k, x.word(1, 10 + k), k + 1);
        }
        Check.due("nobody may say it", Check.court("name a;").word(0, 1), 0);
    }

    private static void noSuchWord() {
        WordEach x = Check.court(Check.COW);
        int[] others = {-1, 3, 9, 16, 20, Integer.MIN_VALUE, Integer.MAX_VALUE};
        for (int what : others) {
            Check.due("word what " + what, x.word(8, what), -1);
        }
        for (int word : new int[] {-1, 9, 10, Integer.MIN_VALUE, Integer.MAX_VALUE}) {
            for (int what : new int[] {0, 1, 2, 10, 15}) {
                Check.due("word " + word + " " + what, x.word(word, what), -1);
            }
        }
        Check.due("the last one", x.word(8, 0), 5);
        Check.due("the first one", x.word(0, 0), 0);
        Readings.changesNothing("word", Readings::usedCourt, y -> y.word(9, 0), -1);
    }

    private static void benchTold() {
        WordEach x = Check.court(EACH_KIND + "witness abcdef age 99 side 1 says a d c b;witness z age 0 side 0 says f;");
        int[] first = {99, 1, 4, -1};
        int[] second = {0, 0, 1, -1};
        for (int what = 0; what < 4; what++) {
            Check.due("first " + what, x.bench(0, what), first[what]);
            Check.due("second " + what, x.bench(1, what), second[what]);
            Check.due("word " + what, x.bench(0, 10 + what), what);
        }
        Check.due("his only word", x.bench(1, 10), 5);
        for (int k = 0; k < 6; k++) {
            Check.due("letter " + k, x.bench(0, 20 + k), k + 1);
            Check.due("letter " + k, x.bench(1, 20 + k), k == 0 ? 26 : 0);
        }
        Check.due("say", x.say(1, 0), 1);
        Check.due("place 0", x.bench(1, 3), 0);
        Check.due("not yet", x.bench(0, 3), -1);
        Check.due("say", x.say(0, 3), 2);
        Check.due("place 1", x.bench(0, 3), 1);
        Check.due("back", x.back(), true);
        Check.due("not any more", x.bench(0, 3), -1);
    }

    private static void noSuchWitness() {
        WordEach x = Check.court(EACH_KIND + "witness abcdef age 99 side 1 says a d c b;witness z age 0 side 0 says f;");
        for (int what : new int[] {-1, 4, 9, 14, 19, 26, 30, Integer.MIN_VALUE, Integer.MAX_VALUE}) {
            Check.due("bench 0 " + what, x.bench(0, what), -1);
        }
        for (int what : new int[] {11, 12, 13}) {
            Check.due("bench 1 " + what, x.bench(1, what), -1);
        }
        for (int witness : new int[] {-1, 2, 7, Integer.MIN_VALUE, Integer.MAX_VALUE}) {
            for (int what : new int[] {0, 1, 2, 3, 10, 20}) {
                Check.due("bench " + witness + " " + what, x.bench(witness, what), -1);
            }
        }
        Readings.changesNothing("bench", Readings::usedCourt, y -> y.bench(4, 0), -1);
    }

    private static void slotsTold() {
        WordEach x = Check.court("line who did;line whom did who;line did who;line did whom who;line who did whom;"
            + "line whom who did;");
        int[][] due = {{0, 1}, {2, 1, 0}, {1, 0}, {1, 2, 0}, {0, 1, 2}, {2, 0, 1}};
        for (int line = 0; line < due.length; line++) {
            for (int k = -1; k <= 4; k++) {
                boolean isThere = k >= 0 && k < due[line].length;
                Check.due("grammar " + line + " " + k, x.grammar(line, k), isThere ? due[line][k] : -1);
            }
        }
        for (int none : new int[] {-1, 6, 7, Integer.MIN_VALUE, Integer.MAX_VALUE}) {
            Check.due("no such line", x.grammar(none, 0), -1);
            Check.due("no such slot", x.grammar(0, none), -1);
        }
        Check.due("line", x.line(0, false), true);
        Check.due("of a line that is not in force, too", x.grammar(0, 0), 0);
    }
}
