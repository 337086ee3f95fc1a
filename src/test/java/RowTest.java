/** Promises 10 to 19: THE ROW, what it means, how the judge rules. */
public final class RowTest {
    /** Each WITNESS w0 .. w6 may say four words; so rows of any kind can be told. */
    private static final String WORDS = "name he; name cow; deed ran; deed took; turn not; both and; either or; empty um;";

    private static WordEach saying(String lines, String facts, String row) {
        String[] words = row.isEmpty() ? new String[0] : row.split(" ");
        StringBuilder t = new StringBuilder(WORDS).append(lines).append(facts);
        for (int i = 0; i < words.length; i++) {
            t.append("witness w").append((char) ('a' + i)).append(" age 1 side 0 says ").append(words[i]).append(";");
        }
        WordEach x = Check.court(t.toString());
        for (int i = 0; i < words.length; i++) {
            Check.due("say " + words[i], x.say(i, 0), i + 1);
        }
        return x;
    }

    private static void rows() {
        WordEach x = Check.court(Check.COW);
        Check.due("row of none", x.row(0, true), -1);
        Check.due("say", x.say(1, 1), 1);
        Check.due("say", x.say(3, 0), 2);
        Check.due("again", x.say(1, 0), -1);
        Check.due("no such word", x.say(0, 2), -1);
        Check.due("no such word", x.say(0, -1), -1);
        Check.due("no such witness", x.say(4, 0), -1);
        Check.due("no such witness", x.say(-1, 0), -1);
        Check.due("refused", x.status(2), 5);
        Check.due("word 0", x.row(0, false), 3);
        Check.due("by 0", x.row(0, true), 1);
        Check.due("word 1", x.row(1, false), 6);
        Check.due("by 1", x.row(1, true), 3);
        Check.due("row 2", x.row(2, false), -1);
        Check.due("row -1", x.row(-1, false), -1);
        Check.due("back", x.back(), true);
        Check.due("row 1 gone", x.row(1, false), -1);
        Check.due("he may speak again", x.say(3, 1), 2);
        Check.due("word 1", x.row(1, false), 7);
        Check.due("clear", x.clear(), 2);
        Check.due("clear nothing", x.clear(), 0);
        Check.due("back from nothing", x.back(), false);
        Check.due("refused", x.status(2), 6);
    }

    private static void lines() {
        WordEach x = Check.court(Check.COW);
        Check.due("is so already", x.line(0, true), false);
        Check.due("away", x.line(0, false), true);
        Check.due("away already", x.line(0, false), false);
        Check.due("no such line", x.line(2, false), false);
        Check.due("no such line", x.line(-1, true), false);
        Check.due("refused", x.status(3), 4);
        Check.due("in force", x.court(6), 2);
        Check.due("a case without its line", x.instance(0, 1), 0);
        Check.due("back again", x.line(0, true), true);
        Check.due("with it", x.instance(0, 1), -1);
    }

    private static void senseIs(String lines, String row, int due) {
        Check.due("sense of " + row + " by " + lines, saying(lines, "", row).sense(), due);
    }

    private static void sense() {
        String two = "line who did; line who did whom;";
        senseIs(two, "", 0);
        senseIs(two, "um", 1);
        senseIs(two, "um um", 2);
        senseIs(two, "he", 0);
        senseIs(two, "um he", 1);
        senseIs(two, "he took", -1);
        senseIs(two, "he um took um", -1);
        senseIs(two, "he took cow", -1);
        senseIs(two, "he took cow cow", 0);
        senseIs(two, "he took took", 0);
        senseIs(two, "took he", 0);
        senseIs(two, "not he took", -1);
        senseIs(two, "not um not he took", -1);
        senseIs(two, "um not um", 1);
        senseIs(two, "he not took", 0);
        senseIs(two, "he took not", 0);
        senseIs(two, "he took and", 3);
        senseIs(two, "he took and um", 4);
        senseIs(two, "he took um and um cow", 5);
        senseIs(two, "he took and cow ran", -1);
        senseIs(two, "he took cow or not cow ran", -1);
        senseIs(two, "he took and and he", 3);
        senseIs(two, "and he took", 0);
        senseIs(two, "he took or not", 3);
        senseIs(two, "he or cow ran", 0);
        senseIs("", "he took", 0);
        senseIs("line did who;", "took he", -1);
        senseIs("line whom who did;", "he cow took", -1);
        senseIs("line whom who did;", "cow took", 0);
    }

    private static void meansIs(WordEach x, int k, int... due) {
        for (int what = 0; what < due.length; what++) {
            Check.due("means " + k + " " + what, x.means(k, what), due[what]);
        }
    }

    private static void means() {
        String lines = "line who did; line whom did who; line who did whom;";
        WordEach x = saying(lines, "", "not um not he took cow");
        meansIs(x, 0, 1, 3, 0, 2, 1, 0, -1);
        meansIs(x, 1, -1, -1, -1, -1, -1, -1);
        meansIs(x, -1, -1, -1, -1, -1, -1, -1);
        Check.due("means -1", x.means(0, -1), -1);
        x.line(1, false);
        meansIs(x, 0, 0, 3, 1, 2, 2, 0, -1);
        x.line(2, false);
        meansIs(x, 0, -1, -1, -1, -1, -1, -1);
        WordEach y = saying(lines, "", "he took and not cow ran um");
        meansIs(y, 0, 0, 3, -1, 0, 0, 0);
        meansIs(y, 1, 1, 2, -1, 1, 0, 3);
        meansIs(y, 2, -1, -1, -1, -1, -1, -1);
        meansIs(saying(lines, "", "he took or cow ran"), 1, 1, 2, -1, 0, 0, 4);
        meansIs(saying(lines, "", "he took or cow"), 0, -1, -1, -1, -1, -1, -1);
    }

    private static void exactIs(String facts, String row, int byFacts, int did, int didNot) {
        WordEach x = saying("line who did whom; line who did;", facts, row);
        Check.due(row + " by facts", x.exact(0), byFacts);
        Check.due(row + " if he did", x.exact(1), did);
        Check.due(row + " if he did not", x.exact(2), didNot);
        Check.due(row + " exact 3", x.exact(3), -1);
        Check.due(row + " exact -1", x.exact(-1), -1);
        int ruling = did > didNot ? 1 : did < didNot ? 2 : 0;
        Check.due(row + " ruling", x.ruling(0), ruling);
    }

    private static void exact() {
        String f = "fact he took cow; fact cow ran; accused he took;";
        exactIs(f, "he took cow", 1, 1, 0);
        exactIs(f, "he took", 1, 1, 0);
        exactIs(f, "he took he", 0, 1, 0);
        exactIs(f, "not he took he", 1, 0, 1);
        exactIs(f, "not not he took", 1, 1, 0);
        exactIs(f, "cow ran", 1, 1, 1);
        exactIs(f, "cow ran cow", 0, 0, 0);
        exactIs(f, "he ran", 0, 0, 0);
        exactIs(f, "not he ran", 1, 1, 1);
        exactIs(f, "he took and cow ran", 1, 1, 0);
        exactIs(f, "he took and he ran", 0, 0, 0);
        exactIs(f, "he took or cow ran", 1, 1, 1);
        exactIs(f, "he took or he ran", 1, 1, 0);
        exactIs(f, "he ran or not he took", 0, 0, 1);
        exactIs(f, "he took cow cow", -1, -1, -1);
        exactIs("fact he took;", "he took", 1, 1, 1);
        exactIs("fact he took; accused cow took;", "cow took", 0, 1, 0);
        exactIs("fact he took; accused cow took;", "he took cow", 0, 0, 0);
    }

    private static void leftOn() {
        // so from the left on: (so or so) and not so, not: so or (so and not so)
        WordEach x = Check.court(WORDS + "line who did; fact cow ran; accused he took; case cow ran or he took and he ran;"
            + "case he ran and he took or he took;");
        Check.due("or, and", x.instance(0, 0), 0);
        Check.due("and, or", x.instance(1, 0), 1);
    }

    private static void ruling() {
        WordEach x = saying("line who did;", "fact he took; accused he took;", "he took");
        Check.due("ruling", x.ruling(0), 1);
        Check.due("truth", x.ruling(1), 1);
        Check.due("alike", x.ruling(2), 1);
        Check.due("others", x.ruling(3), -1);
        Check.due("others", x.ruling(-1), -1);
        WordEach y = saying("line who did;", "fact he ran; fact cow took; accused he took;", "he took");
        Check.due("ruling", y.ruling(0), 1);
        Check.due("truth", y.ruling(1), 2);
        Check.due("unlike", y.ruling(2), 0);
        WordEach z = saying("line who did;", "fact he took cow; accused he took;", "not he took");
        Check.due("cleared", z.ruling(0), 2);
        Check.due("truth with a whom", z.ruling(1), 1);
        WordEach n = saying("line who did;", "fact he took;", "he took");
        Check.due("without an accused", n.ruling(0), 0);
        Check.due("no truth", n.ruling(1), 0);
        Check.due("alike", n.ruling(2), 1);
    }

    private static void instance() {
        WordEach x = Check.court(Check.COW);
        int[][] due = {{1, -1, 3}, {2, -1, 4}, {0, -1, 2}, {0, 4, 4}, {1, -1, 7}};
        for (int number = 0; number < due.length; number++) {
            for (int what = 0; what < 3; what++) {
                Check.due("instance " + number + " " + what, x.instance(number, what), due[number][what]);
            }
        }
        Check.due("instance 5", x.instance(5, 2), -1);
        Check.due("instance -1", x.instance(-1, 2), -1);
        Check.due("instance what 3", x.instance(0, 3), -1);
        Check.due("instance what -1", x.instance(0, -1), -1);
    }

    public static void main(String[] args) {
        rows();
        lines();
        sense();
        means();
        exact();
        leftOn();
        ruling();
        instance();
        Check.over("RowTest");
    }
}
