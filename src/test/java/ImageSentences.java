import java.util.Map;

/** The sentences of Terms IV on images, and promises 36 to 39. */
final class ImageSentences {
    private static final String SEVEN = "name a;name b;name c;name d;" + sevenWitnesses();

    private ImageSentences() {
    }

    static void run() {
        Sentence.section("Terms");
        Sentence.says("AN IMAGE: of THE ROW how many WORDS; for each the WITNESS and the WORD; the LINES that are in force "
            + "(bits); last a byte: all ahead from 97 on, c = (3 c + it) mod 241.", ImageSentences::bytesOfImages);
        Sentence.says("It is taken, if it is such: each WITNESS once, WORDS that he says, LINES that there are.",
            ImageSentences::imagesTaken);
        Sentence.onlyTells("The constants:");
        Sentence.section("Promise 36");
        Sentence.says("AN IMAGE is written: how many bytes.", ImageSentences::howManyBytes);
        Sentence.section("Promise 37");
        Sentence.says("Byte k of the latest image(); NONE when there is none such.", ImageSentences::latestImage);
        Sentence.section("Promise 38");
        Sentence.says("The tape (it goes) is AN IMAGE: true, THE ROW and LINES are as it tells;", ImageSentences::restored);
        Sentence.says("false, refused (5), when it is none (all stays).", ImageSentences::noImage);
        Sentence.section("Promise 39");
        Sentence.says("How many were refused: 0 feed(), end(); 1 text(); 2 say(), back(); 3 line(); 4 seed(); 5 restore().",
            ImageSentences::howManyRefused);
        Sentence.says("NONE for others.", () -> {
            for (int what : new int[] {-1, 6, 7, Integer.MIN_VALUE, Integer.MAX_VALUE}) {
                Check.due("status " + what, Readings.usedCourt().status(what), -1);
                Check.due("status " + what, new WordEach().status(what), -1);
            }
        });
    }

    private static String sevenWitnesses() {
        StringBuilder t = new StringBuilder();
        for (int i = 0; i < 7; i++) {
            t.append("witness w").append((char) ('a' + i)).append(" age 1 side 0 says d c b a;");
        }
        for (int i = 0; i < 6; i++) {
            t.append("line who did;");
        }
        return t.toString();
    }

    /** With its last byte, as the document tells it. */
    private static int[] sealed(int... octets) {
        int[] image = java.util.Arrays.copyOf(octets, octets.length + 1);
        int c = 97;
        for (int octet : octets) {
            c = (3 * c + octet) % 241;
        }
        image[octets.length] = c;
        return image;
    }

    private static void imageIs(WordEach x, int... due) {
        Check.due("how many bytes", x.image(), due.length);
        octetsAre(x, due);
    }

    private static void octetsAre(WordEach x, int... due) {
        for (int k = 0; k < due.length; k++) {
            Check.due("octet " + k, x.octet(k), due[k]);
        }
        for (int k : new int[] {-1, due.length, due.length + 1, Integer.MIN_VALUE, Integer.MAX_VALUE}) {
            Check.due("octet " + k, x.octet(k), -1);
        }
    }

    private static void put(WordEach x, int[] octets) {
        byte[] bytes = new byte[octets.length];
        for (int i = 0; i < octets.length; i++) {
            bytes[i] = (byte) octets[i];
        }
        Check.put(x, bytes, 0);
    }

    private static boolean restores(WordEach x, int... octets) {
        put(x, octets);
        boolean is = x.restore();
        Check.due("the tape goes", x.end(1), false);
        return is;
    }

    private static WordEach allSpoken() {
        WordEach x = Check.court(SEVEN);
        for (int i = 0; i < 7; i++) {
            Check.due("say", x.say(6 - i, i % 4), i + 1);
        }
        return x;
    }

    private static void bytesOfImages() {
        imageIs(new WordEach(), 0, 0, 150);
        imageIs(allSpoken(), sealed(7, 6, 3, 5, 2, 4, 1, 3, 0, 2, 3, 1, 2, 0, 1, 63));
        WordEach x = Check.court(Check.COW);
        imageIs(x, sealed(0, 3));
        Check.due("not", x.say(2, 2), 1);
        imageIs(x, sealed(1, 2, 5, 3));
        Check.due("line", x.line(0, false), true);
        imageIs(x, sealed(1, 2, 5, 2));
        Check.due("she", x.say(0, 1), 2);
        imageIs(x, sealed(2, 2, 5, 0, 1, 2));
        Check.due("line", x.line(1, false), true);
        // reckoned by hand: 97, 293 mod 241 = 52, 158, 479 mod 241 = 238, 714 mod 241 = 232, 697 mod 241 = 215, 645 mod 241
        imageIs(x, 2, 2, 5, 0, 1, 0, 163);
    }

    private static void imagesTaken() {
        Check.due("nothing said", restores(new WordEach(), 0, 0, 150), true);
        Check.due("all have spoken", restores(Check.court(SEVEN), sealed(7, 6, 3, 5, 2, 4, 1, 3, 0, 2, 3, 1, 2, 0, 1, 63)),
            true);
        // each WITNESS once
        taken(false, 2, 0, 0, 0, 1, 3);
        taken(false, 2, 0, 0, 0, 0, 3);
        taken(true, 2, 0, 0, 2, 2, 3);
        taken(false, 3, 0, 0, 2, 2, 0, 1, 3);
        taken(false, 1, 4, 0, 3);
        taken(false, 1, 255, 0, 3);
        taken(true, 1, 3, 7, 3);
        taken(true, 4, 3, 6, 2, 8, 1, 3, 0, 1, 0);
        taken(false, 5, 3, 6, 2, 8, 1, 3, 0, 1, 0, 0, 0);
        // WORDS that he says: by their number in the COURT
        int[][] says = {{0, 1}, {4, 3, 5}, {2, 8, 5}, {6, 7}};
        for (int witness = 0; witness < 4; witness++) {
            for (int word = 0; word < 24; word++) {
                boolean is = false;
                for (int said : says[witness]) {
                    is |= said == word;
                }
                taken(is, 1, witness, word, 3);
            }
            taken(false, 1, witness, 255, 3);
            taken(false, 1, witness, 128, 3);
        }
        // LINES that there are
        for (int lines = 0; lines < 256; lines++) {
            taken(lines < 4, 0, lines);
            taken(lines < 4, 1, 0, 0, lines);
            Check.due("of none", restores(new WordEach(), sealed(0, lines)), lines == 0);
            Check.due("of six", restores(Check.court(SEVEN), sealed(0, lines)), lines < 64);
        }
        lastByteAndLength();
    }

    private static void taken(boolean due, int... octets) {
        WordEach x = Check.court(Check.COW);
        Check.due("taken: " + java.util.Arrays.toString(octets), restores(x, sealed(octets)), due);
        Check.due("refused", x.status(5), due ? 0 : 1);
        Check.due("words", x.court(5), due ? octets[0] : 0);
        Check.due("lines", x.court(6), due ? octets[octets.length - 1] : 3);
    }

    private static void lastByteAndLength() {
        int[] image = sealed(1, 2, 5, 2);
        for (int last = 0; last < 256; last++) {
            int[] other = image.clone();
            other[4] = last;
            Check.due("last byte " + last, restores(Check.court(Check.COW), other), last == image[4]);
        }
        for (int size = 0; size < 12; size++) {
            int[] other = java.util.Arrays.copyOf(image, size);
            Check.due("of " + size + " bytes", restores(Check.court(Check.COW), other), size == 5);
        }
        // the right last byte, but one byte, or two, too many or too few
        taken(false, 1, 2, 5);
        taken(false, 1, 2);
        taken(false, 1, 2, 5, 2, 0);
        taken(false, 1, 2, 5, 2, 0, 3);
        taken(false, 0);
        taken(false, 255, 2, 5, 2);
        taken(false, 2, 2, 5, 2);
    }

    private static void howManyBytes() {
        WordEach x = Check.court(SEVEN);
        for (int n = 0; n <= 7; n++) {
            Check.due("image of " + n, x.image(), 2 * n + 3);
            Check.due("say", n == 7 || x.say(n, 0) == n + 1, true);
        }
        Check.due("clear", x.clear(), 7);
        Check.due("image of none", x.image(), 3);
        Map<String, Long> due = Readings.of(Readings::usedCourt);
        int[] told = sealed(3, 2, 5, 0, 0, 1, 4, 2);
        for (int k = 0; k < told.length; k++) {
            due.put("octet " + k, (long) told[k]);
        }
        Readings.alike("image", Readings.of(() -> {
            WordEach y = Readings.usedCourt();
            Check.due("image", y.image(), 9);
            return y;
        }), due);
    }

    private static void latestImage() {
        WordEach x = Check.court(Check.COW);
        for (int k = -1; k < 4; k++) {
            Check.due("ahead of any, octet " + k, x.octet(k), -1);
        }
        Check.due("not", x.say(2, 2), 1);
        Check.due("ahead of any still", x.octet(0), -1);
        int[] due = sealed(1, 2, 5, 3);
        imageIs(x, due);
        Check.due("line", x.line(0, false), true);
        octetsAre(x, due);
        Check.due("he", x.say(0, 0), 2);
        octetsAre(x, due);
        Check.due("restored", restores(x, sealed(0, 0)), true);
        octetsAre(x, due);
        Check.due("none", restores(x, 1, 2, 3), false);
        octetsAre(x, due);
        Check.due("text", Check.text(x, "name a;"), 1);
        octetsAre(x, due);
        Check.due("text", Check.text(x, "name"), -1);
        octetsAre(x, due);
        imageIs(x, 0, 0, 150);
    }

    private static void restored() {
        WordEach x = Readings.usedCourt();
        Check.due("end", x.end(0), true);
        Check.due("restore", restores(x, sealed(2, 3, 7, 0, 1, 1)), true);
        Check.due("words", x.court(5), 2);
        int[][] row = {{3, 7}, {0, 1}, {-1, -1}};
        for (int place = 0; place < 3; place++) {
            Check.due("by " + place, x.row(place, true), row[place][0]);
            Check.due("word " + place, x.row(place, false), row[place][1]);
        }
        Check.due("lines", x.court(6), 1);
        Check.due("by these lines", x.cases(0), 3);
        Check.due("who has spoken", x.say(3, 0), -1);
        Check.due("who has not", x.say(2, 2), 3);
        Check.due("back", x.back(), true);
        Check.due("his place", x.bench(0, 3), 1);
        Check.due("nothing, no line", restores(x, sealed(0, 0)), true);
        Check.due("words", x.court(5), 0);
        Check.due("lines", x.court(6), 0);
        Check.due("by no line", x.cases(0), 5);
        Check.due("lines", restores(x, sealed(0, 3)), true);
        Check.due("by both", x.cases(0), 2);
        Check.due("what was found by other lines is not told", x.plan(1, -1, 0, -1), 2);
        Check.due("no line", restores(x, sealed(0, 0)), true);
        Check.due("no plan", x.plan(1, -1, 0, -1), -1);
        Check.due("odds", x.odds(0), 1000);
        thereAndBack();
    }

    /** An image of one object makes another one of the same COURT as the first. */
    private static void thereAndBack() {
        Map<String, Long> due = Readings.of(() -> {
            WordEach x = Readings.usedCourt();
            Check.due("end", x.end(0), true);
            Check.due("image", x.image(), 9);
            return x;
        });
        Readings.alike("restore", Readings.of(() -> {
            WordEach x = Check.court(Check.COW);
            Check.due("faulty question", Check.ask(x, "first x"), WordEach.NOTHING);
            Check.due("seed", x.seed(77), true);
            Check.due("or", x.say(3, 1), 1);
            Check.due("restore", restores(x, sealed(3, 2, 5, 0, 0, 1, 4, 2)), true);
            Check.due("image", x.image(), 9);
            Check.due("the tape was asked", x.status(0), 1);
            return x;
        }), withOneEndRefused(due));
    }

    /** restores() tries whether the tape has a byte left, and is refused. */
    private static Map<String, Long> withOneEndRefused(Map<String, Long> readings) {
        readings.computeIfPresent("status 0", (name, before) -> before + 1);
        return readings;
    }

    private static void noImage() {
        int[][] none = {{}, {0}, {0, 0}, {0, 0, 150}, sealed(0, 4), sealed(1, 2, 6, 2), sealed(2, 2, 5, 2, 5, 2),
            sealed(1, 4, 0, 2), {1, 2, 5, 2, 0}, sealed(1, 2, 5, 2, 0)};
        none[3][2] = 151;
        for (int[] octets : none) {
            Map<String, Long> due = Readings.of(() -> {
                WordEach x = Readings.usedCourt();
                Check.due("end", x.end(0), true);
                return x;
            });
            due.put("status 5", 1L);
            Readings.alike("restore of " + java.util.Arrays.toString(octets), Readings.of(() -> {
                WordEach x = Readings.usedCourt();
                Check.due("end", x.end(0), true);
                put(x, octets);
                Check.due("restore", x.restore(), false);
                return x;
            }), due);
        }
        WordEach full = new WordEach();
        put(full, new int[1600]);
        Check.due("a full tape", full.restore(), false);
        Check.due("it goes", full.end(1), false);
    }

    private static void howManyRefused() {
        WordEach x = new WordEach();
        int[] due = new int[6];
        statusIs(x, due);
        for (int n = 1; n <= 3; n++) {
            Check.due("end", x.end(1), false);
            due[0]++;
            statusIs(x, due);
            Check.due("text", Check.text(x, "x"), -1);
            due[1]++;
            statusIs(x, due);
            Check.due("say", x.say(0, 0), -1);
            Check.due("back", x.back(), false);
            due[2] += 2;
            statusIs(x, due);
            Check.due("line", x.line(0, true), false);
            due[3]++;
            statusIs(x, due);
            Check.due("seed", x.seed(-1), false);
            due[4]++;
            statusIs(x, due);
            Check.due("restore", x.restore(), false);
            due[5]++;
            statusIs(x, due);
        }
        for (int n = 20; n <= 1600; n += 20) {
            Check.due("feed", x.feed(0x20202020, 0x20202020, 0x20202020, 0x20202020, 0x20202020), n);
        }
        Check.due("feed", x.feed(0, 0, 0, 0, 0), -1);
        due[0]++;
        statusIs(x, due);
        // a text and what can be leave them
        Check.due("text", x.text(), 0);
        Check.due("ask", x.ask(), WordEach.NOTHING);
        Check.due("game", x.game(4, 0), -2);
        Check.due("lots", x.lots(0), -1);
        statusIs(x, due);
    }

    private static void statusIs(WordEach x, int[] due) {
        for (int what = 0; what < 6; what++) {
            Check.due("status " + what, x.status(what), due[what]);
        }
    }
}
