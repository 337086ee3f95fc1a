/** Promises 1 to 9: a new object, the tape, the text and its FAULTS, what the COURT has. */
public final class CourtTextTest {
    private static final String AD = "name a;deed d;";

    private static void newObject() {
        WordEach x = new WordEach();
        int[] due = {0, 0, 0, 0, 0, 0, 0, -1, -1, -1};
        for (int what = 0; what < due.length; what++) {
            Check.due("new court " + what, x.court(what), due[what]);
        }
        Check.due("new court -1", x.court(-1), -1);
        Check.due("new fault 0", x.fault(0), 0);
        Check.due("new fault 1", x.fault(1), -1);
        Check.due("new fault 2", x.fault(2), -1);
        Check.due("new fault -1", x.fault(-1), -1);
        Check.due("new word", x.word(0, 0), -1);
        Check.due("new bench", x.bench(0, 0), -1);
        Check.due("new grammar", x.grammar(0, 0), -1);
        Check.due("new ruling", x.ruling(0), 0);
    }

    private static void tape() {
        WordEach x = new WordEach();
        for (int n = 1; n <= 80; n++) {
            Check.due("feed " + n, x.feed(-1, 0, 1, Integer.MAX_VALUE, Integer.MIN_VALUE), 20 * n);
        }
        Check.due("feed too much", x.feed(0, 0, 0, 0, 0), -1);
        Check.due("end above", x.end(1601), false);
        Check.due("end below", x.end(-1), false);
        Check.due("end lowest", x.end(Integer.MIN_VALUE), false);
        Check.due("refused", x.status(0), 4);
        Check.due("end all", x.end(1600), true);
        Check.due("end", x.end(1581), true);
        Check.due("feed over the edge", x.feed(0, 0, 0, 0, 0), -1);
        Check.due("end", x.end(1580), true);
        Check.due("feed to the edge", x.feed(0, 0, 0, 0, 0), 1600);
        Check.due("end 0", x.end(0), true);
        Check.due("feed", x.feed(0, 0, 0, 0, 0), 20);
        Check.due("end 21", x.end(21), false);
        Check.due("refused", x.status(0), 6);
        // the highest byte comes first: "name a;" and blanks
        x.end(0);
        x.feed(0x6e616d65, 0x20613b20, 0x20202020, 0x0a202020, 0x20202020);
        Check.due("text of numbers", x.text(), 1);
        Check.due("tape gone", x.feed(0, 0, 0, 0, 0), 20);
    }

    private static void text() {
        WordEach x = Check.court(Check.COW);
        x.say(0, 0);
        x.line(1, false);
        x.seed(5);
        Check.due("faulty", Check.text(x, "name"), -1);
        Check.due("fault", x.fault(0), 1);
        Check.due("all stays: words", x.court(0), 9);
        Check.due("all stays: row", x.court(5), 1);
        Check.due("all stays: lines", x.court(6), 1);
        Check.due("refused", x.status(1), 1);
        Check.due("told again", Check.text(x, Check.COW), 23);
        Check.due("fault gone", x.fault(0), 0);
        Check.due("its place gone", x.fault(1), -1);
        Check.due("nobody has spoken", x.court(5), 0);
        Check.due("all lines", x.court(6), 3);
        Check.due("empty text", x.text(), 0);
        Check.due("empty court", x.court(0) + x.court(3) + x.court(4), 0);
        Check.due("no accused", x.court(7), -1);
        Check.due("blanks alone", Check.text(x, " \n "), 0);
        Check.due("no blanks", Check.text(x, "name a;deed d;line who did;fact a d;witness w age 0 side 1 says a d;"
            + "case a d;accused a d;"), 7);
        Check.due("blanks everywhere", Check.text(x, "\n name \n a ; deed d\n; line\nwho did ; "), 3);
        Check.due("accused twice", Check.text(x, AD + "name b;deed e;accused a d;accused b e;"), 6);
        Check.due("the last one", x.court(7), 2);
        Check.due("its deed", x.court(8), 3);
        Check.due("numbers", Check.text(x, AD + "witness w age 0099 side 0001 says a;"), 3);
        Check.due("age", x.bench(0, 0), 99);
        Check.due("side", x.bench(0, 1), 1);
        Check.due("own letters", Check.text(x, "name names;name whos;"), 2);
    }

    private static void syntaxFaults() {
        Check.faulty("x;", 1, 0);
        Check.faulty(" ;", 1, 1);
        Check.faulty("nam", 1, 0);
        Check.faulty("who a;", 1, 0);
        Check.faulty("Name a;", 1, 0);
        Check.faulty("name", 1, 4);
        Check.faulty("name  ", 1, 6);
        Check.faulty("name a", 1, 6);
        Check.faulty("name a \n", 1, 8);
        Check.faulty("name a b;", 1, 7);
        Check.faulty("name\ta;", 1, 4);
        Check.faulty("name A;", 1, 5);
        Check.faulty("name aB;", 1, 6);
        Check.faulty("name a1;", 1, 6);
        Check.faulty("name 1;", 1, 5);
        Check.faulty("name1;", 1, 4);
        Check.faulty("name ;", 1, 5);
        Check.faulty("name \u00e9;", 1, 5);
        Check.faulty("name did;", 1, 5);
        Check.faulty("name witness;", 1, 5);
        Check.faulty("name abcdefg;", 1, 11);
        Check.faulty("name witnesses;", 1, 11);
        Check.faulty("name abcdefghij;", 1, 11);
        Check.faulty(AD + "line;", 1, 18);
        Check.faulty(AD + "line who did who;", 1, 27);
        Check.faulty(AD + "line who did whom who;", 1, 32);
        Check.faulty(AD + "line who did whom x;", 1, 32);
        Check.faulty(AD + "line who whom;", 1, 27);
        Check.faulty(AD + "line did whom;", 1, 27);
        Check.faulty(AD + "line who did", 1, 26);
        Check.faulty(AD + "line who 1", 1, 23);
        Check.faulty(AD + "line a", 1, 19);
        Check.faulty(AD + "fact a;", 1, 20);
        Check.faulty(AD + "fact a d a a;", 1, 25);
        Check.faulty(AD + "fact a d who;", 1, 23);
        Check.faulty(AD + "fact a d 7;", 1, 23);
        Check.faulty(AD + "fact abcdefg d;", 1, 25);
        Check.faulty(AD + "accused a;", 1, 23);
        Check.faulty(AD + "accused a d a;", 1, 26);
        Check.faulty(AD + "case;", 1, 18);
        Check.faulty(AD + "case case;", 1, 19);
        Check.faulty(AD + "case a d a d a d a d x;", 1, 35);
        Check.faulty(AD + "case a d a d a d a d abcdefgh;", 1, 35);
    }

    private static void witnessFaults() {
        String w = AD + "witness w ";
        Check.faulty(w + "side 0", 1, 24);
        Check.faulty(w + "age x", 1, 28);
        Check.faulty(w + "age5 side", 1, 27);
        Check.faulty(w + "age100 side", 1, 27);
        Check.faulty(w + "age 5side 0", 1, 29);
        Check.faulty(w + "age 12345 side", 1, 32);
        Check.faulty(w + "age 00005 side", 1, 32);
        Check.faulty(w + "age 5 age", 1, 30);
        Check.faulty(w + "age 5 side ;", 1, 35);
        Check.faulty(w + "age 5 side 0 a", 1, 37);
        Check.faulty(w + "age 5 side 0says a", 1, 36);
        Check.faulty(w + "age 5 side 0 says;", 1, 41);
        Check.faulty(w + "age 5 side 0 says 5;", 1, 42);
        Check.faulty("name a;name b;name c;name d;name e;witness w age 5 side 0 says a b c d e;", 1, 71);
        Check.faulty("name a;name b;name c;name d;name e;witness w age 5 side 0 says a b c d zz;", 1, 71);
        Check.faulty(w + "age 100 side", 2, 28);
        Check.faulty(w + "age 9999 side", 2, 28);
        Check.faulty(w + "age 99 side 2", 2, 36);
        Check.faulty(w + "age 99 side 0 says w;", 3, 43);
        Check.faulty(w + "age 99 side 0 says a a;", 3, 45);
        Check.faulty(w + "age 99 side 0 says a x;", 3, 45);
        Check.faulty(w + "age 99 side 0 says a;witness w age", 3, 53);
        Check.faulty(w + "age 99 side 0 says a;turn w", 3, 50);
        Check.faulty(AD + "witness d age", 3, 22);
        Check.faulty(AD + "witness says age", 1, 22);
    }

    private static void wordFaults() {
        Check.faulty("name a;deed a;", 3, 12);
        Check.faulty("fact a", 3, 5);
        Check.faulty(AD + "fact d d;", 3, 19);
        Check.faulty(AD + "fact a a;", 3, 21);
        Check.faulty(AD + "fact a d d;", 3, 23);
        Check.faulty(AD + "fact a d x;", 3, 23);
        Check.faulty(AD + "accused d d;", 3, 22);
        Check.faulty(AD + "accused a x;", 3, 24);
        Check.faulty(AD + "case a x;", 3, 21);
        Check.faulty("name a;case a b;name b;", 3, 14);
    }

    private static String many(String statement, int n) {
        StringBuilder t = new StringBuilder();
        for (int i = 0; i < n; i++) {
            t.append(statement.replace("%", "" + (char) ('g' + i)));
        }
        return t.toString();
    }

    private static void tooMany() {
        String words = many("name %;", 20);
        Check.due("20 words", Check.text(new WordEach(), words), 20);
        Check.faulty(words + "name x", 5, words.length());
        Check.faulty(words + " turn g", 5, words.length() + 1);
        Check.faulty(words + "empty", 5, words.length());
        String lines = AD + many("line who did;", 6);
        Check.due("6 lines", Check.text(new WordEach(), lines), 8);
        Check.faulty(lines + "line;", 5, lines.length());
        String facts = AD + many("fact a d;", 16);
        Check.due("16 facts", Check.text(new WordEach(), facts), 18);
        Check.faulty(facts + "fact a d;", 5, facts.length());
        String witnesses = AD + many("witness % age 1 side 0 says a;", 7);
        Check.due("7 witnesses", Check.text(new WordEach(), witnesses), 9);
        Check.faulty(witnesses + "\n witness", 5, witnesses.length() + 2);
        String cases = AD + many("case a;", 8);
        Check.due("8 cases", Check.text(new WordEach(), cases), 10);
        Check.faulty(cases + "case a;", 5, cases.length());
        String statements = AD + many("accused a d;", 68);
        Check.due("70 statements", Check.text(new WordEach(), statements + " "), 70);
        Check.faulty(statements + "accused a d;", 5, statements.length());
        Check.faulty(statements + " ?", 5, statements.length() + 1);
        Check.faulty(statements + ";", 5, statements.length());
    }

    private static void told() {
        WordEach x = Check.court(Check.COW);
        int[] due = {9, 2, 2, 4, 5, 0, 3, 0, 4, -1};
        for (int what = 0; what < due.length; what++) {
            Check.due("court " + what, x.court(what), due[what]);
        }
        x.say(1, 2);
        x.say(2, 2);
        Check.due("row", x.court(5), 2);
        x.line(0, false);
        Check.due("lines", x.court(6), 2);
        int[] kinds = {0, 0, 0, 1, 1, 2, 3, 4, 5, -1};
        for (int word = 0; word < kinds.length; word++) {
            Check.due("kind of " + word, x.word(word, 0), kinds[word]);
        }
        Check.due("word -1", x.word(-1, 0), -1);
        Check.due("who may say not", x.word(5, 1), 2);
        Check.due("who may say he", x.word(0, 1), 1);
        Check.due("not said twice", x.word(5, 2), 2);
        Check.due("he unsaid", x.word(0, 2), 0);
        int[] mama = {13, 1, 13, 1, 0, 0, -1};
        for (int k = 0; k < mama.length; k++) {
            Check.due("mama letter " + k, x.word(8, 10 + k), mama[k]);
        }
        for (int what : new int[] {-1, 3, 9, 16, 17, 20, Integer.MAX_VALUE, Integer.MIN_VALUE}) {
            Check.due("word what " + what, x.word(8, what), -1);
        }
        benches(x);
        grammars(x);
    }

    private static void benches(WordEach x) {
        int[] cid = {70, 1, 3, 1};
        for (int what = 0; what < cid.length; what++) {
            Check.due("cid " + what, x.bench(2, what), cid[what]);
        }
        Check.due("unspoken", x.bench(0, 3), -1);
        int[] words = {2, 8, 5, -1, -1};
        for (int k = 0; k < words.length; k++) {
            Check.due("cid says " + k, x.bench(2, 10 + k), words[k]);
        }
        int[] letters = {3, 9, 4, 0, 0, 0, -1};
        for (int k = 0; k < letters.length; k++) {
            Check.due("cid letter " + k, x.bench(2, 20 + k), letters[k]);
        }
        for (int what : new int[] {-1, 4, 9, 14, 19, 26, Integer.MAX_VALUE, Integer.MIN_VALUE}) {
            Check.due("bench what " + what, x.bench(2, what), -1);
        }
        Check.due("bench 4", x.bench(4, 0), -1);
        Check.due("bench -1", x.bench(-1, 0), -1);
    }

    private static void grammars(WordEach x) {
        int[][] slots = {{0, 1, 2, -1}, {0, 1, -1, -1}, {-1, -1, -1, -1}};
        for (int line = 0; line < slots.length; line++) {
            for (int k = 0; k < 4; k++) {
                Check.due("grammar " + line + " " + k, x.grammar(line, k), slots[line][k]);
            }
        }
        Check.due("grammar -1", x.grammar(-1, 0), -1);
        Check.due("grammar slot -1", x.grammar(0, -1), -1);
        Check.due("turned round", Check.court(AD + "line whom did who;").grammar(0, 0), 2);
    }

    public static void main(String[] args) {
        newObject();
        tape();
        text();
        syntaxFaults();
        witnessFaults();
        wordFaults();
        tooMany();
        told();
        Check.over("CourtTextTest");
    }
}
