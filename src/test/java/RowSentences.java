/** The sentences of Terms II and of promises 10 to 19: THE ROW, what it means, how the judge rules by it. */
final class RowSentences {
    /** Numbers 0 .. 7. */
    private static final String WORDS = "name he;name cow;deed ran;deed hit;turn not;both and;either or;empty um;";
    private static final String TWO_LINES = "line who did;line who did whom;";

    private RowSentences() {
    }

    static void run() {
        Sentence.section("Terms");
        Sentence.onlyTells("II.");
        Sentence.says("A ROW of WORDS: empty ones count for nothing.", RowSentences::emptyWords);
        Sentence.says("A CLAUSE: WORDS of KIND turn, as many as there are, then those of the first LINE that fits: its SLOTS "
            + "one by one (who, whom: names, did: a deed), behind which the ROW ends, or a both, an either stands.",
            RowSentences::clauses);
        Sentence.says("A SENTENCE: a CLAUSE { both or either, and a CLAUSE }, to the end.", RowSentences::sentences);
        Sentence.says("If a CLAUSE can't be, the ROW makes NO SENSE from that CLAUSE's first WORD on (its place in the ROW, "
            + "empty ones counted; the ROW's length, if none is left).", RowSentences::noSense);
        Sentence.says("A CLAUSE is so, if a FACT has its who, its deed, and, if it has a whom, that one (a FACT without whom "
            + "then is none); each turn makes it the other way.", RowSentences::clausesThatAreSo);
        Sentence.says("A SENTENCE is so from the left on: by both, if it was so and the CLAUSE is; by either, if one is.",
            RowSentences::sentencesThatAreSo);
        Sentence.says("IF HE DID, IF HE DID NOT: the accused one's CLAUSES (who the accused, that deed, whatever whom) are "
            + "so, are not so (ahead of turns), all others by FACTS.", RowSentences::ifHeDid);
        Sentence.says("RULING: 1 GUILTY, if the ROW makes sense, is so IF HE DID, and is not IF HE DID NOT; 2 CLEARED, if it "
            + "makes sense, is not so IF HE DID, and is IF HE DID NOT; else 0 (free), also without an accused.",
            RowSentences::rulings);
        Sentence.says("THE TRUTH: 1, if a FACT has the accused and the deed, else 2; 0 without an accused.",
            RowSentences::truth);
        Sentence.says("THE ROW at hand: WITNESSES say one of their WORDS each, one behind the other.", RowSentences::atHand);
        rowPromises();
        meaningPromises();
    }

    private static void rowPromises() {
        Sentence.section("Promise 10");
        Sentence.says("The WORD at a place of THE ROW (witness false), who said it (true); NONE when there is none such.",
            RowSentences::rowTold);
        Sentence.section("Promise 11");
        Sentence.says("A WITNESS says his k-th WORD: how many are in THE ROW then;", RowSentences::saying);
        Sentence.says("NONE, refused (2), when there is none such, or he has spoken.", RowSentences::nothingToSay);
        Sentence.section("Promise 12");
        Sentence.says("What was said last is taken back: true; false, refused (2), when nothing was.",
            RowSentences::takenBack);
        Sentence.section("Promise 13");
        Sentence.says("THE ROW is empty again: how many WORDS went.", RowSentences::cleared);
        Sentence.section("Promise 14");
        Sentence.says("A LINE is in force (or not): true;", RowSentences::linesInForce);
        Sentence.says("false, refused (3), when there is none such, or it is so already.", RowSentences::noSuchLine);
    }

    private static void meaningPromises() {
        Sentence.section("Promise 15");
        Sentence.says("From which place on THE ROW makes NO SENSE; NONE when it makes sense.", RowSentences::senseTold);
        Sentence.section("Promise 16");
        Sentence.says("Of THE ROW's k-th CLAUSE: 0 the WORD who, 1 the deed, 2 whom (NONE without), 3 how many turns, 4 its "
            + "LINE, 5 its binding ahead (0 none, 3 both, 4 either).", RowSentences::meaningTold);
        Sentence.says("NONE when THE ROW makes NO SENSE, there is none such, or for others.", RowSentences::noMeaning);
        Sentence.section("Promise 17");
        Sentence.says("Whether THE ROW is so by FACTS (what 0), IF HE DID (1), IF HE DID NOT (2): 1, 0; NONE when it makes "
            + "NO SENSE, or for others.", RowSentences::exactTold);
        Sentence.section("Promise 18");
        Sentence.says("RULING by THE ROW (what 0); THE TRUTH (1); whether both are alike (2: 1, 0). NONE for others.",
            RowSentences::rulingTold);
        Sentence.section("Promise 19");
        Sentence.says("RULING by a CASE (what 0), from where on it makes NO SENSE (1; NONE when it does), how many WORDS it "
            + "has (2).", RowSentences::instanceTold);
        Sentence.says("NONE when there is none such, or for others.", RowSentences::noSuchInstance);
    }

    /** A COURT whose WITNESSES have said a ROW, one WORD each. */
    private static WordEach row(String lines, String told, String row) {
        String[] words = row.isEmpty() ? new String[0] : row.split(" ");
        StringBuilder t = new StringBuilder(WORDS).append(lines).append(told);
        for (int i = 0; i < words.length; i++) {
            t.append("witness w").append((char) ('a' + i)).append(" age 1 side 0 says ").append(words[i]).append(";");
        }
        WordEach x = Check.court(t.toString());
        for (int i = 0; i < words.length; i++) {
            Check.due("say " + words[i], x.say(i, 0), i + 1);
        }
        return x;
    }

    private static void senseIs(String lines, String row, int due) {
        WordEach said = row(lines, "", row);
        Check.due("sense of " + row + " by " + lines, said.sense(), due);
        for (int what = 0; what < 3; what++) {
            Check.due("exact " + what + " of " + row + " by " + lines, said.exact(what) == -1, due != -1);
        }
        Check.due("means of " + row + " by " + lines, said.means(0, 0) == -1, due != -1);
        if (!row.isEmpty()) {
            WordEach x = Check.court(WORDS + lines + "case " + row + ";");
            Check.due("sense of the case " + row + " by " + lines, x.instance(0, 1), due);
        }
    }

    /** As lines of a table: so by FACTS, IF HE DID, IF HE DID NOT. */
    private static void soIs(String told, String row, int byFacts, int did, int didNot) {
        WordEach x = row(TWO_LINES, told, row);
        Check.due(row + " by facts", x.exact(0), byFacts);
        Check.due(row + " if he did", x.exact(1), did);
        Check.due(row + " if he did not", x.exact(2), didNot);
        Check.due(row + " rules", x.ruling(0), did > didNot ? 1 : did < didNot ? 2 : 0);
    }

    // ---- terms

    private static void emptyWords() {
        String told = "fact he hit cow;accused he hit;";
        String[] rows = {"he hit", "not he hit", "he hit cow", "cow ran", "not cow ran cow", "he hit or cow ran"};
        for (String plain : rows) {
            WordEach x = row(TWO_LINES, told, plain);
            String[] words = plain.split(" ");
            for (int place = 0; place <= words.length; place++) {
                StringBuilder t = new StringBuilder();
                for (int i = 0; i <= words.length; i++) {
                    t.append(i == place ? "um " : "").append(i < words.length ? words[i] + " " : "");
                }
                alike(x, row(TWO_LINES, told, t.toString().trim()), t.toString());
            }
        }
        alike(row(TWO_LINES, told, "he hit"), row(TWO_LINES, told, "um um he um um hit um"), "um wherever");
        senseIs(TWO_LINES, "um", 1);
        senseIs(TWO_LINES, "um um um", 3);
        senseIs(TWO_LINES, "um um um um um um um", 7);
    }

    private static void alike(WordEach x, WordEach y, String row) {
        Check.due("sense of " + row, y.sense(), -1);
        for (int k = 0; k < 3; k++) {
            for (int what = 0; what < 6; what++) {
                Check.due("means " + k + " " + what + " of " + row, y.means(k, what), x.means(k, what));
            }
            Check.due("exact " + k + " of " + row, y.exact(k), x.exact(k));
            Check.due("ruling " + k + " of " + row, y.ruling(k), x.ruling(k));
        }
    }

    private static void clauses() {
        String[] turns = {"", "not ", "not not ", "not not not ", "not not not not ", "not not not not not "};
        for (int n = 0; n < turns.length; n++) {
            WordEach x = row(TWO_LINES, "", turns[n] + "he hit");
            Check.due("turns", x.means(0, 3), n);
            Check.due("who", x.means(0, 0), 0);
            Check.due("its line", x.means(0, 4), 0);
        }
        Check.due("the longer line", row(TWO_LINES, "", "he hit cow").means(0, 4), 1);
        Check.due("the first of like ones", row("line who did whom;line did who;line who did;line who did;", "", "he hit")
            .means(0, 4), 2);
        WordEach x = row("line whom did who;line who did whom;", "", "he hit cow");
        Check.due("the first of both that fit", x.means(0, 4), 0);
        Check.due("who by it", x.means(0, 0), 1);
        Check.due("whom by it", x.means(0, 2), 0);
        Check.due("the first is away", x.line(0, false), true);
        Check.due("the first in force", x.means(0, 4), 1);
        Check.due("who by it", x.means(0, 0), 0);
        Check.due("whom by it", x.means(0, 2), 1);
        slotsAskKinds();
        senseIs(TWO_LINES, "he hit or cow ran", -1);
        senseIs(TWO_LINES, "he hit cow and cow ran", -1);
        senseIs(TWO_LINES, "he hit not", 0);
        senseIs(TWO_LINES, "he hit hit", 0);
        senseIs(TWO_LINES, "he hit cow he", 0);
        senseIs(TWO_LINES, "he not hit", 0);
        senseIs("line who did whom;", "he hit or he hit cow", 0);
        senseIs("line who did;", "he hit cow", 0);
        senseIs("", "he hit", 0);
    }

    private static void slotsAskKinds() {
        String[] words = {"he", "hit", "not", "and", "or"};
        String[] orders = {"who did whom", "did who whom", "whom who did"};
        for (int order = 0; order < 3; order++) {
            for (String first : words) {
                for (String second : words) {
                    for (String third : words) {
                        String row = first + " " + second + " " + third;
                        String asked = order == 0 ? "he hit he" : order == 1 ? "hit he he" : "he he hit";
                        senseIs("line " + orders[order] + ";", row, row.equals(asked) ? -1 : 0);
                    }
                }
            }
        }
    }

    private static void sentences() {
        senseIs(TWO_LINES, "he hit", -1);
        senseIs(TWO_LINES, "he hit and he hit", -1);
        senseIs(TWO_LINES, "he hit or he hit", -1);
        senseIs(TWO_LINES, "he hit cow and cow ran he", -1);
        senseIs(TWO_LINES, "not he hit or not he hit", -1);
        senseIs(TWO_LINES, "", 0);
        senseIs(TWO_LINES, "and", 0);
        senseIs(TWO_LINES, "and he hit", 0);
        senseIs(TWO_LINES, "he hit and", 3);
        senseIs(TWO_LINES, "he hit or", 3);
        senseIs(TWO_LINES, "he hit and or he hit", 3);
        senseIs(TWO_LINES, "he hit he hit", 0);
        WordEach x = Check.court(WORDS + "line who did;case he hit and he ran or cow ran;"
            + "case he hit or he ran and cow;case he hit or cow hit not he ran;");
        Check.due("three clauses", x.instance(0, 1), -1);
        Check.due("the third is none", x.instance(1, 1), 6);
        Check.due("the second is none", x.instance(2, 1), 3);
    }

    private static void noSense() {
        senseIs(TWO_LINES, "he", 0);
        senseIs(TWO_LINES, "um he", 1);
        senseIs(TWO_LINES, "um um he um", 2);
        senseIs(TWO_LINES, "not", 0);
        senseIs(TWO_LINES, "um not", 1);
        senseIs(TWO_LINES, "not not he", 0);
        senseIs(TWO_LINES, "um not um he", 1);
        senseIs(TWO_LINES, "um hit", 1);
        senseIs(TWO_LINES, "um and", 1);
        senseIs(TWO_LINES, "he um hit um hit", 0);
        senseIs(TWO_LINES, "he hit or he", 3);
        senseIs(TWO_LINES, "he hit um or um he", 5);
        senseIs(TWO_LINES, "um he hit or um not he", 5);
        senseIs(TWO_LINES, "he hit or or", 3);
        senseIs(TWO_LINES, "he hit or um and", 4);
        senseIs(TWO_LINES, "he hit cow um or", 5);
        senseIs(TWO_LINES, "he hit or um", 4);
        senseIs(TWO_LINES, "he hit or um um um", 6);
        senseIs(TWO_LINES, "he hit or he hit or", 6);
        senseIs(TWO_LINES, "he hit hit or he hit", 0);
        senseIs(TWO_LINES, "", 0);
        Check.due("of nobody", new WordEach().sense(), 0);
        WordEach x = Check.court(WORDS + "line who did;case he hit and he ran or not um;case he hit and he ran or um um;");
        Check.due("at its last clause's first word", x.instance(0, 1), 6);
        Check.due("at its length", x.instance(1, 1), 8);
    }

    private static void clausesThatAreSo() {
        String told = "fact he hit;fact he ran cow;fact cow hit he;";
        soIs(told, "he hit", 1, 1, 1);
        soIs(told, "he hit cow", 0, 0, 0);
        soIs(told, "he ran", 1, 1, 1);
        soIs(told, "he ran cow", 1, 1, 1);
        soIs(told, "he ran he", 0, 0, 0);
        soIs(told, "cow ran", 0, 0, 0);
        soIs(told, "cow hit", 1, 1, 1);
        soIs(told, "cow hit he", 1, 1, 1);
        soIs(told, "cow hit cow", 0, 0, 0);
        soIs("", "he hit", 0, 0, 0);
        soIs("", "not he hit", 1, 1, 1);
        soIs("fact he hit;fact he hit cow;", "he hit cow", 1, 1, 1);
        soIs("fact he hit cow;fact he hit he;", "he hit he", 1, 1, 1);
        soIs(told, "not he hit", 0, 0, 0);
        soIs(told, "not not he hit", 1, 1, 1);
        soIs(told, "not not not he hit", 0, 0, 0);
        soIs(told, "not he hit cow", 1, 1, 1);
        soIs(told, "not not not not not he ran", 0, 0, 0);
        // the sixteenth FACT as good as the first
        StringBuilder facts = new StringBuilder();
        for (int i = 0; i < 15; i++) {
            facts.append("fact cow ran;");
        }
        soIs(facts + "fact he hit;", "he hit", 1, 1, 1);
        soIs(facts + "fact he hit;", "he ran", 0, 0, 0);
        // no whom is none of the WORDS, the first one (he) neither
        soIs("fact cow hit;", "cow hit he", 0, 0, 0);
        soIs("fact cow hit he;", "cow hit he", 1, 1, 1);
        factsAreGone();
    }

    private static void factsAreGone() {
        WordEach x = Check.court(WORDS + TWO_LINES + "fact he hit;accused he hit;");
        for (int i = 0; i < 3; i++) {
            Check.due("truth of an earlier text", x.ruling(1), i == 0 ? 1 : 2);
            Check.due("text", Check.text(x, WORDS + TWO_LINES + "accused he hit;"), 11);
        }
        Check.due("truth", x.ruling(1), 2);
        Check.due("text", Check.text(x, WORDS + TWO_LINES), 10);
        Check.due("truth of no accused", x.ruling(1), 0);
        Check.due("no accused", x.court(7), -1);
        Check.due("no deed", x.court(8), -1);
    }

    /** All SENTENCES of three CLAUSES that are so (cow ran) or not so (cow hit), reckoned from the left on. */
    private static void sentencesThatAreSo() {
        for (int bits = 0; bits < 32; bits++) {
            StringBuilder t = new StringBuilder();
            boolean is = false;
            for (int clause = 0; clause < 3; clause++) {
                boolean isSo = (bits >> clause & 1) == 1;
                boolean both = clause == 0 ? false : (bits >> 2 + clause & 1) == 1;
                is = both ? is && isSo : is || isSo;
                t.append(clause == 0 ? "" : both ? "and " : "or ").append(isSo ? "he hit " : "he ran ");
            }
            // the accused one's CLAUSES: so IF HE DID; so the RULING tells whether the SENTENCE is so
            String row = t.toString().trim();
            WordEach x = Check.court(WORDS + TWO_LINES + "fact he hit;accused he hit;case " + row + ";");
            Check.due("ruling by " + row, x.instance(0, 0), is ? 1 : 0);
        }
        soIs("fact cow ran;", "cow ran or cow hit", 1, 1, 1);
        soIs("fact cow ran;", "cow hit or cow ran", 1, 1, 1);
        soIs("fact cow ran;", "cow hit or cow hit", 0, 0, 0);
        soIs("fact cow ran;", "cow ran or cow ran", 1, 1, 1);
        soIs("fact cow ran;", "cow ran and cow hit", 0, 0, 0);
        soIs("fact cow ran;", "cow hit and cow ran", 0, 0, 0);
        soIs("fact cow ran;", "cow ran and cow ran", 1, 1, 1);
        soIs("fact cow ran;", "cow ran and not cow hit", 1, 1, 1);
        soIs("fact cow ran;", "not cow ran or cow hit", 0, 0, 0);
    }

    private static void ifHeDid() {
        String accused = "accused he hit;";
        soIs(accused, "he hit", 0, 1, 0);
        soIs(accused, "he hit cow", 0, 1, 0);
        soIs(accused, "he hit he", 0, 1, 0);
        soIs(accused, "not he hit", 1, 0, 1);
        soIs(accused, "not not he hit cow", 0, 1, 0);
        soIs(accused, "he ran", 0, 0, 0);
        soIs(accused, "cow hit", 0, 0, 0);
        soIs(accused, "cow hit he", 0, 0, 0);
        soIs("fact he hit cow;" + accused, "he hit he", 0, 1, 0);
        soIs("fact he hit cow;" + accused, "he hit cow", 1, 1, 0);
        soIs("fact he hit;fact he ran;" + accused, "he ran", 1, 1, 1);
        soIs("fact he hit;fact cow hit;" + accused, "cow hit", 1, 1, 1);
        soIs("fact he hit;fact cow hit;" + accused, "not cow hit", 0, 0, 0);
        soIs("accused cow ran;" + accused, "cow ran", 0, 0, 0);
        soIs("fact cow ran;" + accused, "he hit and cow ran", 0, 1, 0);
        soIs("fact cow ran;" + accused, "he hit or cow ran", 1, 1, 1);
        soIs(accused, "he hit and cow ran", 0, 0, 0);
        soIs(accused, "he hit or not he hit", 1, 1, 1);
        soIs(accused, "he hit and not he hit", 0, 0, 0);
        soIs(accused, "he hit and he hit cow", 0, 1, 0);
        // by one LINE he is who, by the other whom
        WordEach x = row("line who did whom;line whom did who;", accused, "cow hit he");
        Check.due("another one's clause", x.ruling(0), 0);
        Check.due("line", x.line(0, false), true);
        Check.due("the accused one's", x.ruling(0), 1);
    }

    private static void rulings() {
        soIs("accused he hit;", "he hit", 0, 1, 0);
        soIs("accused he hit;", "not he hit", 1, 0, 1);
        soIs("accused he hit;", "he ran", 0, 0, 0);
        soIs("accused he hit;", "not he ran", 1, 1, 1);
        soIs("fact he hit;", "he hit", 1, 1, 1);
        soIs("fact he hit;", "not he hit", 0, 0, 0);
        Check.due("guilty", row(TWO_LINES, "accused he hit;", "he hit").ruling(0), 1);
        Check.due("cleared", row(TWO_LINES, "accused he hit;", "not he hit").ruling(0), 2);
        Check.due("free", row(TWO_LINES, "accused he hit;", "cow hit").ruling(0), 0);
        Check.due("so anyway", row(TWO_LINES, "accused he hit;", "he hit or not he hit").ruling(0), 0);
        for (String row : new String[] {"", "um", "he", "he hit or", "he hit hit", "not he", "and he hit"}) {
            Check.due("no sense: " + row, row(TWO_LINES, "accused he hit;", row).ruling(0), 0);
        }
        Check.due("without an accused", row(TWO_LINES, "fact he hit;", "he hit").ruling(0), 0);
        Check.due("without an accused", row(TWO_LINES, "", "not he hit").ruling(0), 0);
    }

    private static void truth() {
        String[] told = {"accused he hit;", "fact he hit;accused he hit;", "accused he hit;fact he hit cow;",
            "fact he ran;fact cow hit;accused he hit;", "fact cow hit he;accused he hit;", "fact he hit;", "",
            "fact he hit;accused he hit;accused cow ran;", "fact he ran;fact he hit he;accused cow ran;accused he hit;"};
        int[] due = {2, 1, 1, 2, 2, 0, 0, 2, 1};
        for (int i = 0; i < told.length; i++) {
            Check.due("truth of " + told[i], Check.court(WORDS + told[i]).ruling(1), due[i]);
        }
        Check.due("truth of nobody", new WordEach().ruling(1), 0);
    }

    private static void atHand() {
        StringBuilder t = new StringBuilder(WORDS);
        for (int i = 0; i < 7; i++) {
            t.append("witness w").append((char) ('a' + i)).append(" age 1 side 0 says he cow hit ran;");
        }
        WordEach x = Check.court(t.toString());
        int[] by = {3, 0, 6, 2, 5, 1, 4};
        int[] word = {0, 1, 3, 2};
        for (int i = 0; i < 7; i++) {
            Check.due("say", x.say(by[i], i % 4), i + 1);
        }
        for (int i = 0; i < 7; i++) {
            Check.due("who", x.row(i, true), by[i]);
            Check.due("what", x.row(i, false), word[i % 4]);
            Check.due("he has said his one", x.say(i, 0), -1);
        }
        Check.due("all of them", x.court(5), 7);
    }

    // ---- promises 10 to 14

    private static void rowTold() {
        WordEach x = row(TWO_LINES, "", "not he hit cow or cow ran");
        int[] words = {4, 0, 3, 1, 6, 1, 2};
        for (int place = 0; place < 7; place++) {
            Check.due("word " + place, x.row(place, false), words[place]);
            Check.due("by " + place, x.row(place, true), place);
        }
        for (int place : new int[] {-1, 7, 8, Integer.MIN_VALUE, Integer.MAX_VALUE}) {
            Check.due("no word " + place, x.row(place, false), -1);
            Check.due("by nobody " + place, x.row(place, true), -1);
        }
        Check.due("back", x.back(), true);
        Check.due("what went", x.row(6, false), -1);
        Check.due("what stays", x.row(5, false), 1);
        Check.due("of none", Check.court(WORDS).row(0, false), -1);
        Readings.changesNothing("row", Readings::usedCourt, y -> y.row(3, true), -1);
    }

    private static void saying() {
        WordEach x = Check.court(Check.COW);
        Check.due("his first", x.say(1, 0), 1);
        Check.due("his last", x.say(2, 2), 2);
        Check.due("took", x.row(0, false), 4);
        Check.due("not", x.row(1, false), 5);
        Check.due("the last witness", x.say(3, 1), 3);
        Check.due("the first witness", x.say(0, 0), 4);
    }

    private static void nothingToSay() {
        int[][] none = {{-1, 0}, {4, 0}, {7, 0}, {Integer.MIN_VALUE, 0}, {Integer.MAX_VALUE, 0}, {3, -1}, {3, 2}, {3, 4},
            {3, Integer.MIN_VALUE}, {3, Integer.MAX_VALUE}, {0, 0}, {0, 1}, {0, 2}, {1, 0}, {2, 2}, {2, 0}};
        for (int[] say : none) {
            Readings.refused("say " + say[0] + " " + say[1], Readings::usedCourt, x -> x.say(say[0], say[1]), -1, 2);
        }
        Readings.refused("say of nobody", WordEach::new, x -> x.say(0, 0), -1, 2);
        Check.due("who may still speak", Readings.usedCourt().say(3, 1), 4);
    }

    private static void takenBack() {
        WordEach x = Readings.usedCourt();
        for (int left = 2; left >= 0; left--) {
            Check.due("back", x.back(), true);
            Check.due("words left", x.court(5), left);
            Check.due("it was the last", x.row(left, false), -1);
            Check.due("refused", x.status(2), 0);
        }
        Check.due("the first one is free again", x.say(2, 0), 1);
        Check.due("back", x.back(), true);
        Check.due("nothing was said", x.back(), false);
        Check.due("refused", x.status(2), 1);
        Readings.refused("back", () -> {
            WordEach y = Readings.usedCourt();
            Check.due("clear", y.clear(), 3);
            return y;
        }, y -> y.back() ? 1 : 0, 0, 2);
        Readings.refused("back of nobody", WordEach::new, y -> y.back() ? 1 : 0, 0, 2);
    }

    private static void cleared() {
        for (int n = 0; n <= 7; n++) {
            WordEach x = row(TWO_LINES, "", "not he hit cow or cow ran");
            for (int i = n; i < 7; i++) {
                Check.due("back", x.back(), true);
            }
            Check.due("clear", x.clear(), n);
            Check.due("nothing is left", x.court(5), 0);
            Check.due("no word", x.row(0, false), -1);
            Check.due("all may speak again", x.say(n % 7, 0), 1);
            Check.due("refused", x.status(2), 0);
        }
        Readings.changesNothing("clear", () -> {
            WordEach y = Readings.usedCourt();
            Check.due("clear", y.clear(), 3);
            return y;
        }, WordEach::clear, 0);
    }

    private static void linesInForce() {
        WordEach x = Check.court(WORDS + "line who did;line did who;line who did whom;line did who whom;line whom did who;"
            + "line whom who did;case he hit;case hit he;");
        int bits = 63;
        int[] order = {3, 0, 5, 1, 4, 2};
        for (int line : order) {
            Check.due("away " + line, x.line(line, false), true);
            bits &= ~(1 << line);
            Check.due("in force", x.court(6), bits);
        }
        Check.due("no line: no sense", x.instance(0, 1), 0);
        for (int line : order) {
            Check.due("in force " + line, x.line(line, true), true);
            bits |= 1 << line;
            Check.due("in force", x.court(6), bits);
        }
        Check.due("refused", x.status(3), 0);
        Check.due("sense", x.instance(0, 1), -1);
        Check.due("away", x.line(1, false), true);
        Check.due("by the others still", x.instance(0, 1), -1);
        Check.due("by none", x.instance(1, 1), 0);
    }

    private static void noSuchLine() {
        for (int line : new int[] {-1, 2, 6, 31, 32, 33, Integer.MIN_VALUE, Integer.MAX_VALUE}) {
            for (boolean is : new boolean[] {true, false}) {
                Readings.refused("line " + line + is, Readings::usedCourt, x -> x.line(line, is) ? 1 : 0, 0, 3);
            }
        }
        Readings.refused("in force already", Readings::usedCourt, x -> x.line(1, true) ? 1 : 0, 0, 3);
        Readings.refused("away already", Readings::usedCourt, x -> x.line(0, false) ? 1 : 0, 0, 3);
        Readings.refused("line of none", WordEach::new, x -> x.line(0, false) ? 1 : 0, 0, 3);
    }

    // ---- promises 15 to 19

    private static void senseTold() {
        WordEach x = row(TWO_LINES, "", "not he hit cow or cow ran");
        int[] due = {-1, 5, 5, -1, -1, 0, 0};
        for (int went = 0; went < 7; went++) {
            Check.due("sense of " + (7 - went) + " words", x.sense(), due[went]);
            Check.due("back", x.back(), true);
        }
        Check.due("sense of none", x.sense(), 0);
    }

    private static void meaningTold() {
        WordEach x = row(TWO_LINES, "", "not he hit cow or cow ran");
        meansIs(x, 0, 0, 3, 1, 1, 1, 0);
        meansIs(x, 1, 1, 2, -1, 0, 0, 4);
        WordEach y = row(TWO_LINES, "", "cow ran and not not he hit");
        meansIs(y, 0, 1, 2, -1, 0, 0, 0);
        meansIs(y, 1, 0, 3, -1, 2, 0, 3);
        WordEach z = row("line did whom who;line did who;line whom who did;", "", "hit he cow");
        meansIs(z, 0, 1, 3, 0, 0, 0, 0);
        meansIs(row("line did whom who;line did who;line whom who did;", "", "hit cow"), 0, 1, 3, -1, 0, 1, 0);
        meansIs(row("line did whom who;line did who;line whom who did;", "", "cow he hit"), 0, 0, 3, 1, 0, 2, 0);
    }

    private static void meansIs(WordEach x, int k, int... due) {
        for (int what = 0; what < due.length; what++) {
            Check.due("means " + k + " " + what, x.means(k, what), due[what]);
        }
    }

    private static void noMeaning() {
        WordEach x = row(TWO_LINES, "", "not he hit cow or cow ran");
        for (int k : new int[] {-1, 2, 3, Integer.MIN_VALUE, Integer.MAX_VALUE}) {
            meansIs(x, k, -1, -1, -1, -1, -1, -1);
        }
        for (int what : new int[] {-1, 6, 7, Integer.MIN_VALUE, Integer.MAX_VALUE}) {
            for (int k = 0; k < 2; k++) {
                Check.due("means " + k + " " + what, x.means(k, what), -1);
            }
        }
        Check.due("back", x.back(), true);
        // the first CLAUSE is one, but THE ROW makes NO SENSE
        meansIs(x, 0, -1, -1, -1, -1, -1, -1);
        meansIs(new WordEach(), 0, -1, -1, -1, -1, -1, -1);
        Readings.changesNothing("means", Readings::usedCourt, y -> y.means(1, 0), -1);
    }

    private static void exactTold() {
        soIs("fact he hit;accused he hit;", "he hit", 1, 1, 0);
        soIs("fact he hit;accused he hit;", "not he hit", 0, 0, 1);
        soIs("accused he hit;", "not he hit", 1, 0, 1);
        WordEach x = row(TWO_LINES, "accused he hit;", "he hit or cow");
        for (int what = -1; what < 4; what++) {
            Check.due("no sense " + what, x.exact(what), -1);
        }
        Check.due("back", x.back(), true);
        Check.due("back", x.back(), true);
        int[] due = {-1, 0, 1, 0, -1};
        for (int what = -1; what < 4; what++) {
            Check.due("exact " + what, x.exact(what), due[what + 1]);
        }
        Check.due("highest", x.exact(Integer.MAX_VALUE), -1);
        Check.due("lowest", x.exact(Integer.MIN_VALUE), -1);
        Check.due("of none", new WordEach().exact(0), -1);
    }

    private static void rulingTold() {
        String[] rows = {"he hit", "not he hit", "cow ran", "he"};
        int[] rulings = {1, 2, 0, 0};
        String[] told = {"fact he hit;accused he hit;", "accused he hit;"};
        for (int truth = 1; truth <= 2; truth++) {
            for (int i = 0; i < rows.length; i++) {
                WordEach x = row(TWO_LINES, told[truth - 1], rows[i]);
                Check.due("ruling by " + rows[i], x.ruling(0), rulings[i]);
                Check.due("truth", x.ruling(1), truth);
                Check.due("alike", x.ruling(2), rulings[i] == truth ? 1 : 0);
            }
        }
        WordEach x = row(TWO_LINES, "fact he hit;", "he hit");
        Check.due("free without an accused", x.ruling(0), 0);
        Check.due("no truth", x.ruling(1), 0);
        Check.due("alike", x.ruling(2), 1);
        for (int what : new int[] {-1, 3, Integer.MIN_VALUE, Integer.MAX_VALUE}) {
            Check.due("ruling " + what, x.ruling(what), -1);
        }
    }

    private static void instanceTold() {
        WordEach x = Check.court(WORDS + TWO_LINES + "fact he hit;accused he hit;case he hit;case not he hit cow;case um;"
            + "case he ran or;case he;case he hit or cow ran and he ran;case he hit and um not cow ran um;"
            + "case not not not not he hit cow he;");
        int[][] due = {{1, -1, 2}, {2, -1, 4}, {0, 1, 1}, {0, 3, 3}, {0, 0, 1}, {0, -1, 8}, {1, -1, 8}, {0, 0, 8}};
        for (int number = 0; number < due.length; number++) {
            for (int what = 0; what < 3; what++) {
                Check.due("instance " + number + " " + what, x.instance(number, what), due[number][what]);
            }
        }
        Check.due("line", x.line(1, false), true);
        Check.due("by the lines in force", x.instance(1, 0), 0);
        Check.due("by the lines in force", x.instance(1, 1), 0);
        Check.due("as many words", x.instance(1, 2), 4);
    }

    private static void noSuchInstance() {
        WordEach x = Check.court(Check.COW);
        for (int number : new int[] {-1, 5, 8, Integer.MIN_VALUE, Integer.MAX_VALUE}) {
            for (int what = 0; what < 3; what++) {
                Check.due("instance " + number + " " + what, x.instance(number, what), -1);
            }
        }
        for (int what : new int[] {-1, 3, Integer.MIN_VALUE, Integer.MAX_VALUE}) {
            Check.due("instance 0 " + what, x.instance(0, what), -1);
        }
        Readings.changesNothing("instance", Readings::usedCourt, y -> y.instance(5, 0), -1);
    }
}
