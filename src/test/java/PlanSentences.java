import java.util.ArrayList;
import java.util.List;
import java.util.Set;
import java.util.TreeSet;

/** The sentences of Terms III on plans, undoing and turns, and of promises 20 to 25. */
final class PlanSentences {
    /** Numbers 0 .. 6. */
    private static final String WORDS = "name he;name cow;deed hit;turn not;both and;either or;empty um;";
    private static final String WHO_DID = "line who did;accused he hit;";

    private PlanSentences() {
    }

    static void run() {
        Sentence.section("Terms");
        Sentence.onlyTells("III.");
        Sentence.says("A PLAN: WITNESSES in an order (of both sides, or of one), each with one of his WORDS, by which a ROW of "
            + "these alone brings a RULING (1 or 2).", PlanSentences::plans);
        Sentence.says("THE FEWEST: of the fewest WITNESSES (5 at most); of like ones the first by the first WITNESS, his "
            + "WORD's number, then the second one, and so on.", PlanSentences::fewest);
        Sentence.says("STANDING (kind 1): with each one of its WITNESSES away the RULING is the same, too (there must be two "
            + "at least).", () -> noneOfKind(1));
        Sentence.says("FIRM (kind 2): with any one WORD of the COURT put between at any place (at the ends, too) it is the "
            + "same, too.", () -> noneOfKind(2));
        Sentence.says("Kind 0: neither is asked.", PlanSentences::kindZero);
        Sentence.says("UNDOING THE ROW at hand: a WORD of the COURT put at a place (0 .. its length) by which RULING is "
            + "another one.", PlanSentences::undoing);
        Sentence.says("BY TURNS, n more WORDS (0 .. 3) behind THE ROW at hand, side 0 first, then side 1, and so on: each "
            + "says a WORD by a WITNESS of that side who has not spoken, or none.", PlanSentences::byTurns);
        Sentence.says("Side 0 wants the ROW then to be GUILTY (1), side 1 not (0).", PlanSentences::whatSidesWant);
        Sentence.says("Each does what is best for it; of like ones silence, then the first by WITNESS, by WORD's number.",
            PlanSentences::whatIsBest);
        promises();
    }

    private static void promises() {
        Sentence.section("Promise 20");
        Sentence.says("THE FEWEST for a RULING (1, 2), of a side (NONE: both), of a kind (0 .. 2): how many WITNESSES (k "
            + "NONE), the k-th WITNESS (k 0 .. 4), his WORD's number among his own (10 and k).", PlanSentences::planTold);
        Sentence.says("NONE when there is none such, or something can't be.", PlanSentences::noSuchPlan);
        Sentence.section("Promise 21");
        Sentence.says("How many UNDO THE ROW: WORDS and places (what 0), places (1), WORDS (2). NONE for others.",
            PlanSentences::howManyUndo);
        Sentence.section("Promise 22");
        Sentence.says("The k-th that UNDOES it, by places, then WORDS: 100 times the place and the WORD; NONE when there is "
            + "none such.", PlanSentences::oneThatUndoes);
        Sentence.section("Promise 23");
        Sentence.says("RULING by THE ROW without what a WITNESS said; NONE when he has not spoken.", PlanSentences::ill);
        Sentence.section("Promise 24");
        Sentence.says("RULING by THE ROW with a WORD put at a place; NONE when there are none such.", PlanSentences::between);
        Sentence.section("Promise 25");
        Sentence.says("BY TURNS, n more (0 .. 3): 1 when THE ROW comes to be GUILTY, else 0 (what 0); the WITNESS who speaks "
            + "first (1; NONE: silence, or n is 0), his WORD's number among his own (2; likewise).",
            PlanSentences::gameTold);
        Sentence.says("-2 when n can't be, or for others.", PlanSentences::noSuchGame);
    }

    /** WITNESSES wa, wb ..: each the digit of his side, then what he says. */
    private static String bench(String... sayings) {
        StringBuilder t = new StringBuilder();
        for (int i = 0; i < sayings.length; i++) {
            t.append("witness w").append((char) ('a' + i)).append(" age 1 side ").append(sayings[i].charAt(0));
            t.append(" says ").append(sayings[i].substring(1)).append(";");
        }
        return t.toString();
    }

    private static WordEach court(String rest, String... sayings) {
        return Check.court(WORDS + rest + bench(sayings));
    }

    /** The k-th WITNESS and his WORD's number, one behind the other; none: there is no such plan. */
    private static void planIs(WordEach x, int ruling, int side, int... due) {
        String call = "plan " + ruling + " " + side + " 0 ";
        int size = due.length / 2;
        Check.due(call + "NONE", x.plan(ruling, side, 0, -1), size == 0 ? -1 : size);
        for (int k = 0; k < 5; k++) {
            Check.due(call + k, x.plan(ruling, side, 0, k), k < size ? due[2 * k] : -1);
            Check.due(call + (10 + k), x.plan(ruling, side, 0, 10 + k), k < size ? due[2 * k + 1] : -1);
        }
    }

    // ---- plans

    private static void plans() {
        WordEach x = court(WHO_DID, "0hit not", "1cow he", "0he um", "1hit");
        planIs(x, 1, -1, 1, 1, 0, 0);
        planIs(x, 1, 0, 2, 0, 0, 0);
        planIs(x, 1, 1, 1, 1, 3, 0);
        planIs(x, 2, -1, 0, 1, 1, 1, 3, 0);
        planIs(x, 2, 0);
        planIs(x, 2, 1);
        // a ROW of these alone: what has been said, and by whom, is nothing to it
        Check.due("say", x.say(1, 1), 1);
        Check.due("say", x.say(3, 0), 2);
        planIs(x, 1, -1, 1, 1, 0, 0);
        // by the LINES in force
        Check.due("line", x.line(0, false), true);
        planIs(x, 1, -1);
        Check.due("line", x.line(0, true), true);
        planIs(x, 1, -1, 1, 1, 0, 0);
        // each with one of his WORDS: one alone can't say both
        planIs(court(WHO_DID, "0he hit"), 1, -1);
        planIs(court(WHO_DID, "0he hit", "0um not"), 1, -1);
        planIs(court(WHO_DID, "0he hit", "0um not hit"), 1, -1, 0, 0, 1, 2);
        // another one's clause, and none without an accused
        planIs(court(WHO_DID, "0cow", "0hit"), 1, -1);
        planIs(court("line who did;fact he hit;", "0he", "0hit"), 1, -1);
        planIs(court(WHO_DID), 1, -1);
        planIs(new WordEach(), 2, -1);
    }

    private static void fewest() {
        planIs(court(WHO_DID, "0he", "0hit"), 1, -1, 0, 0, 1, 0);
        planIs(court(WHO_DID, "0he", "0hit"), 2, -1);
        planIs(court(WHO_DID, "0he", "0hit", "0not"), 2, -1, 2, 0, 0, 0, 1, 0);
        String three = "line who did whom;accused he hit;";
        planIs(court(three, "0he", "0hit"), 1, -1);
        planIs(court(three, "0he", "0hit", "0cow"), 1, -1, 0, 0, 1, 0, 2, 0);
        planIs(court(three, "0he", "0hit", "0cow", "1not"), 2, -1, 3, 0, 0, 0, 1, 0, 2, 0);
        planIs(court(three, "0he", "0hit", "0cow", "1not"), 2, 0);
        // none of five can be the fewest: the accused one's clause alone has four WORDS at most, with its turn
        planIs(court(three, "0he", "0hit", "0um", "0cow", "1not", "0not", "0and"), 2, -1, 4, 0, 0, 0, 1, 0, 3, 0);
        // two that would do with a longer line do with a shorter one
        planIs(court("line who did whom;line who did;accused he hit;", "0he", "0cow", "0hit"), 1, -1, 0, 0, 2, 0);
        theFirstOfLikeOnes();
    }

    private static void theFirstOfLikeOnes() {
        planIs(court(WHO_DID, "0um", "0hit", "0he", "0he", "0hit"), 1, -1, 2, 0, 1, 0);
        planIs(court("line did who;" + WHO_DID, "0um", "0hit", "0he", "0he", "0hit"), 1, -1, 1, 0, 2, 0);
        planIs(court("line did who;" + WHO_DID, "0um he hit", "0he hit"), 1, -1, 0, 1, 1, 1);
        // his WORD's number among his own: hit is he's first word here, though he has the lower number in the COURT
        planIs(court("line did who;" + WHO_DID, "0hit he", "0he hit"), 1, -1, 0, 0, 1, 0);
        planIs(court(WHO_DID, "0cow not hit he", "0cow um not hit"), 1, -1, 0, 3, 1, 3);
        // the second one's number, too: both names would do as whom
        planIs(court("line who did whom;accused he hit;", "0he", "0um hit", "0um cow he"), 1, -1, 0, 0, 1, 1, 2, 1);
        planIs(court("line who did whom;accused he hit;", "0he", "0um hit", "0um he cow"), 1, -1, 0, 0, 1, 1, 2, 1);
    }

    /** Each CLAUSE has exactly one deed: without it, or with one more, the ROW makes NO SENSE, and its RULING is 0. */
    private static void noneOfKind(int kind) {
        WordEach[] courts = {court(WHO_DID, "0he", "0hit"), court(WHO_DID, "0he hit", "0hit he", "1he hit", "1or and um not"),
            court("line did who;" + WHO_DID, "0he", "1hit", "0or", "1he", "0hit", "0um", "1um"),
            court("line who did;line who did whom;accused he hit;", "0he", "0hit", "0um", "0cow", "1he"),
            Check.court("name he;deed hit;" + WHO_DID + bench("0he", "0hit")), Check.court(Check.COW), new WordEach()};
        for (WordEach x : courts) {
            for (int ruling = 1; ruling <= 2; ruling++) {
                for (int side = -1; side <= 1; side++) {
                    for (int k : new int[] {-1, 0, 1, 4, 10, 11, 14}) {
                        Check.due("plan " + ruling + " " + side + " " + kind + " " + k, x.plan(ruling, side, kind, k), -1);
                    }
                }
            }
        }
        // what the sentence asks is asked by ill() and between() of the same ROW: one of them always undoes it
        WordEach x = courts[0];
        Check.due("he", x.say(0, 0), 1);
        Check.due("hit", x.say(1, 0), 2);
        Check.due("guilty", x.ruling(0), 1);
        Check.due("with the one away who said the deed", x.ill(1), 0);
        Check.due("with the deed once more", x.between(0, 2), 0);
    }

    private static void kindZero() {
        planIs(court(WHO_DID, "0he", "0hit"), 1, -1, 0, 0, 1, 0);
        planIs(court(WHO_DID, "1not", "1he", "1hit"), 2, 1, 0, 0, 1, 0, 2, 0);
    }

    private static void planTold() {
        WordEach x = court("line who did whom;accused he hit;", "0um cow", "1not um hit he", "0um he", "1hit not", "1not");
        planIs(x, 1, -1, 1, 3, 3, 0, 0, 1);
        planIs(x, 1, 0);
        planIs(x, 1, 1);
        planIs(x, 2, -1, 1, 0, 2, 1, 3, 0, 0, 1);
        WordEach y = court(WHO_DID, "0he", "0hit", "1hit", "1not", "1he");
        planIs(y, 1, 0, 0, 0, 1, 0);
        planIs(y, 1, 1, 4, 0, 2, 0);
        planIs(y, 2, 0);
        planIs(y, 2, 1, 3, 0, 4, 0, 2, 0);
        planIs(y, 2, -1, 3, 0, 0, 0, 1, 0);
        // asked the other way round, each is told all the same
        planIs(y, 1, 1, 4, 0, 2, 0);
        planIs(y, 1, 0, 0, 0, 1, 0);
        planIs(y, 1, -1, 0, 0, 1, 0);
    }

    private static void noSuchPlan() {
        WordEach x = court(WHO_DID, "0he", "0hit", "1hit", "1not", "1he");
        for (int k : new int[] {-2, 2, 3, 4, 5, 9, 12, 14, 15, Integer.MIN_VALUE, Integer.MAX_VALUE}) {
            Check.due("k " + k, x.plan(1, -1, 0, k), -1);
        }
        for (int ruling : new int[] {-1, 0, 3, Integer.MIN_VALUE, Integer.MAX_VALUE}) {
            Check.due("ruling " + ruling, x.plan(ruling, -1, 0, -1), -1);
        }
        for (int side : new int[] {-2, 2, Integer.MIN_VALUE, Integer.MAX_VALUE}) {
            Check.due("side " + side, x.plan(1, side, 0, -1), -1);
        }
        for (int kind : new int[] {-1, 3, Integer.MIN_VALUE, Integer.MAX_VALUE}) {
            Check.due("kind " + kind, x.plan(1, -1, kind, -1), -1);
        }
        // what can't be has changed nothing of what can
        planIs(x, 1, -1, 0, 0, 1, 0);
        planIs(x, 1, 0, 0, 0, 1, 0);
        planIs(x, 1, 1, 4, 0, 2, 0);
        planIs(x, 2, -1, 3, 0, 0, 0, 1, 0);
        planIs(x, 2, 0);
        planIs(x, 2, 1, 3, 0, 4, 0, 2, 0);
        for (int ruling = 0; ruling <= 3; ruling++) {
            for (int side = -2; side <= 2; side++) {
                WordEach fresh = court(WHO_DID, "0he", "0hit", "1hit", "1not", "1he");
                Check.due("asked first", fresh.plan(ruling, side, 0, -1) == -1, ruling < 1 || ruling > 2 || side < -1
                    || side > 1 || ruling == 2 && side == 0);
                planIs(fresh, 2, -1, 3, 0, 0, 0, 1, 0);
                planIs(fresh, 1, 1, 4, 0, 2, 0);
            }
        }
        Readings.changesNothing("plan", Readings::usedCourt, y -> y.plan(0, 7, 9, 3), -1);
    }

    // ---- undoing, ill, between

    private static List<Integer> undoingBetween(WordEach x) {
        List<Integer> all = new ArrayList<>();
        for (int place = 0; place <= x.court(5); place++) {
            for (int word = 0; word < x.court(0); word++) {
                if (x.between(place, word) != x.ruling(0)) {
                    all.add(100 * place + word);
                }
            }
        }
        return all;
    }

    private static WordEach said(String rest, String row) {
        String[] words = row.split(" ");
        String[] sayings = new String[words.length];
        for (int i = 0; i < words.length; i++) {
            sayings[i] = i % 2 + words[i];
        }
        WordEach x = court(rest, sayings);
        for (int i = 0; i < words.length; i++) {
            Check.due("say", x.say(i, 0), i + 1);
        }
        return x;
    }

    private static final String[] ROWS = {"he", "hit", "not", "um", "he hit", "not he hit", "he hit cow", "he hit or",
        "he hit or cow", "not he", "um um um um um um um", "he hit and not not cow hit", "not not he um hit or he"};

    private static void undoing() {
        WordEach x = said(WHO_DID, "he hit");
        // ahead: all but um (not: CLEARED); between them: all but um; behind: all but um
        oneIs(x, 0, 1, 2, 3, 4, 5, 100, 101, 102, 103, 104, 105, 200, 201, 202, 203, 204, 205);
        x = said(WHO_DID, "he");
        oneIs(x, 102);
        x = said(WHO_DID, "hit");
        oneIs(x, 0);
        x = said(WHO_DID, "not he");
        oneIs(x, 202);
        x = said("line who did;line who did whom;accused he hit;", "he hit");
        oneIs(x, 0, 1, 2, 3, 4, 5, 100, 101, 102, 103, 104, 105, 202, 203, 204, 205);
        x = court(WHO_DID, "0he");
        oneIs(x);
        x = said("line who did;", "he hit");
        oneIs(x);
        oneIs(new WordEach());
    }

    private static void oneIs(WordEach x, int... due) {
        for (int k = 0; k < due.length; k++) {
            Check.due("one " + k, x.one(k), due[k]);
        }
        for (int k : new int[] {-1, due.length, due.length + 1, Integer.MIN_VALUE, Integer.MAX_VALUE}) {
            Check.due("one " + k, x.one(k), -1);
        }
        Check.due("all 0", x.all(0), due.length);
    }

    private static void howManyUndo() {
        int[][] due = {{1, 1, 1}, {1, 1, 1}, {0, 0, 0}, {0, 0, 0}, {18, 3, 6}};
        for (int i = 0; i < due.length; i++) {
            for (int what = 0; what < 3; what++) {
                Check.due("all " + what + " of " + ROWS[i], said(WHO_DID, ROWS[i]).all(what), due[i][what]);
            }
        }
        for (String row : ROWS) {
            WordEach x = said("line who did;line who did whom;accused he hit;fact cow hit;", row);
            List<Integer> all = undoingBetween(x);
            Set<Integer> places = new TreeSet<>();
            Set<Integer> words = new TreeSet<>();
            for (int one : all) {
                places.add(one / 100);
                words.add(one % 100);
            }
            Check.due("all of " + row, x.all(0), all.size());
            Check.due("places of " + row, x.all(1), places.size());
            Check.due("words of " + row, x.all(2), words.size());
        }
        for (int what : new int[] {-1, 3, Integer.MIN_VALUE, Integer.MAX_VALUE}) {
            Check.due("all " + what, said(WHO_DID, "he").all(what), -1);
        }
        Readings.changesNothing("all", Readings::usedCourt, y -> y.all(3), -1);
    }

    private static void oneThatUndoes() {
        for (String row : ROWS) {
            WordEach x = said("line who did;line who did whom;accused he hit;fact cow hit;", row);
            List<Integer> all = undoingBetween(x);
            for (int k = 0; k < all.size(); k++) {
                Check.due("one " + k + " of " + row, x.one(k), all.get(k));
            }
            Check.due("one too many of " + row, x.one(all.size()), -1);
        }
        // the last place of the longest ROW, the last WORD of twenty
        StringBuilder t = new StringBuilder(WORDS);
        for (int i = 0; i < 12; i++) {
            t.append("empty u").append((char) ('a' + i)).append(";");
        }
        WordEach x = Check.court(t + "deed hits;line who did;accused he hits;"
            + bench("0um", "0um", "0um", "0not", "0not", "0um", "0he"));
        for (int i = 0; i < 7; i++) {
            Check.due("say", x.say(i, 0), i + 1);
        }
        oneIs(x, 719);
        Check.due("a place", x.all(1), 1);
        Check.due("a word", x.all(2), 1);
        Readings.changesNothing("one", Readings::usedCourt, y -> y.one(-1), -1);
    }

    private static void ill() {
        WordEach x = said(WHO_DID, "not not he um hit");
        int[] due = {2, 2, 0, 1, 0};
        Check.due("ruling", x.ruling(0), 1);
        for (int witness = 0; witness < 5; witness++) {
            Check.due("ill " + witness, x.ill(witness), due[witness]);
        }
        for (int witness : new int[] {-1, 5, 6, 7, Integer.MIN_VALUE, Integer.MAX_VALUE}) {
            Check.due("ill " + witness, x.ill(witness), -1);
        }
        Check.due("back", x.back(), true);
        Check.due("he has not spoken any more", x.ill(4), -1);
        Check.due("back", x.back(), true);
        Check.due("the others have", x.ill(0), 0);
        WordEach y = said(WHO_DID, "he hit cow");
        Check.due("no sense", y.ruling(0), 0);
        Check.due("sense without the last one", y.ill(2), 1);
        WordEach z = court(WHO_DID, "0he", "0um", "0hit");
        Check.due("hit first", z.say(2, 0), 1);
        Check.due("he", z.say(0, 0), 2);
        Check.due("by who said it, not by place", z.ill(1), -1);
        Check.due("he alone", z.ill(2), 0);
        Check.due("the only one", said(WHO_DID, "he").ill(0), 0);
        Check.due("of nobody", new WordEach().ill(0), -1);
        Readings.changesNothing("ill", Readings::usedCourt, w -> w.ill(3), -1);
    }

    private static void between() {
        WordEach x = said(WHO_DID, "not he hit");
        int[][] due = {{0, 0, 0, 1, 0, 0, 2}, {0, 0, 0, 1, 0, 0, 2}, {0, 0, 0, 0, 0, 0, 2}, {0, 0, 0, 0, 0, 0, 2}};
        for (int place = 0; place < 4; place++) {
            for (int word = 0; word < 7; word++) {
                Check.due("between " + place + " " + word, x.between(place, word), due[place][word]);
            }
        }
        for (int none : new int[] {-1, 4, 7, 8, Integer.MIN_VALUE, Integer.MAX_VALUE}) {
            Check.due("no such place " + none, x.between(none, 0), -1);
        }
        for (int none : new int[] {-1, 7, 20, Integer.MIN_VALUE, Integer.MAX_VALUE}) {
            Check.due("no such word " + none, x.between(0, none), -1);
        }
        WordEach y = said(WHO_DID, "he");
        Check.due("he hit", y.between(1, 2), 1);
        Check.due("hit he", y.between(0, 2), 0);
        Check.due("hit first", said(WHO_DID, "hit").between(0, 0), 1);
        Check.due("into an empty row", court(WHO_DID).between(0, 0), 0);
        Check.due("behind an empty row", court(WHO_DID).between(1, 0), -1);
        Check.due("of none", new WordEach().between(0, 0), -1);
        WordEach z = said(WHO_DID, "um um um um um um he");
        Check.due("behind seven", z.between(7, 2), 1);
        Readings.changesNothing("between", Readings::usedCourt, w -> w.between(4, 5), -1);
    }

    // ---- by turns

    private static void gameIs(WordEach x, int n, int outcome, int witness, int saying) {
        Check.due("game " + n + " 0", x.game(n, 0), outcome);
        Check.due("game " + n + " 1", x.game(n, 1), witness);
        Check.due("game " + n + " 2", x.game(n, 2), saying);
    }

    /** A COURT where the first WITNESSES say their first WORDS, as many as are asked. */
    private static WordEach begun(int spoken, String rest, String... sayings) {
        WordEach x = court(rest, sayings);
        for (int i = 0; i < spoken; i++) {
            Check.due("say", x.say(i, 0), i + 1);
        }
        return x;
    }

    private static void byTurns() {
        gameIs(begun(2, WHO_DID, "0he", "0hit"), 0, 1, -1, -1);
        gameIs(begun(1, WHO_DID, "0he", "0hit"), 0, 0, -1, -1);
        // one more is of side 0
        gameIs(begun(1, WHO_DID, "1he", "0um hit"), 1, 1, 1, 1);
        gameIs(begun(1, WHO_DID, "1he", "1um hit"), 1, 0, -1, -1);
        // who has spoken can't speak again, and each speaks once
        gameIs(begun(1, WHO_DID, "0he hit"), 1, 0, -1, -1);
        gameIs(begun(0, WHO_DID, "0he hit"), 3, 0, -1, -1);
        gameIs(begun(0, WHO_DID, "1um", "0he hit"), 3, 0, -1, -1);
        gameIs(begun(0, WHO_DID, "1um", "1um", "0um", "0he hit"), 3, 0, -1, -1);
        // two more: side 1 answers
        gameIs(begun(1, WHO_DID, "0he", "0hit", "1um not"), 2, 0, -1, -1);
        gameIs(begun(1, WHO_DID, "0he", "0hit", "1um"), 2, 1, 1, 0);
        gameIs(begun(1, WHO_DID, "0he", "0hit", "0not"), 2, 1, 1, 0);
        // three more: side 0 has the last word
        gameIs(begun(0, WHO_DID, "0he", "0hit", "1um"), 3, 1, 0, 0);
        gameIs(begun(0, WHO_DID, "0he", "0hit", "1um"), 2, 0, -1, -1);
        gameIs(begun(0, WHO_DID, "0he", "0hit", "1um cow"), 3, 0, -1, -1);
        gameIs(begun(0, WHO_DID, "0he", "0hit"), 3, 1, 0, 0);
        // none: silence is a turn, too
        gameIs(begun(2, WHO_DID, "0he", "0hit", "0not", "1um"), 1, 1, -1, -1);
        gameIs(begun(1, WHO_DID, "0he", "1hit", "0um"), 2, 0, -1, -1);
        gameIs(begun(1, WHO_DID, "0he", "0hit", "1um"), 3, 1, -1, -1);
        gameIs(new WordEach(), 3, 0, -1, -1);
        allOfThem();
        Readings.changesNothing("game", Readings::usedCourt, y -> y.game(3, 1), -1);
    }

    private static void allOfThem() {
        // the seventh WITNESS as well as the first
        gameIs(begun(1, WHO_DID, "0he", "0um", "0um", "1um", "0um", "0um", "0um hit"), 1, 1, 6, 1);
        gameIs(begun(6, WHO_DID, "0um", "0um", "0um", "1um", "0um", "0he", "0um hit"), 1, 1, 6, 1);
        gameIs(begun(7, WHO_DID, "0um", "0um", "0um", "1um", "0um", "0he", "0hit"), 3, 1, -1, -1);
        gameIs(begun(6, WHO_DID, "0um", "0um", "0um", "1um", "0he", "0hit", "1not"), 2, 0, -1, -1);
        gameIs(begun(1, WHO_DID, "0he", "1um", "1um", "1um", "1um", "1um", "1hit"), 3, 0, -1, -1);
        // those of an earlier COURT are gone
        WordEach x = court(WHO_DID, "0he", "0hit");
        for (int i = 0; i < 2; i++) {
            Check.due("text", Check.text(x, WORDS + WHO_DID + bench("0he")), 10);
            Check.due("say", x.say(0, 0), 1);
            gameIs(x, 1, 0, -1, -1);
            planIs(x, 1, -1);
        }
    }

    private static void whatSidesWant() {
        // CLEARED is not GUILTY: side 1 is as glad of it as of no RULING
        gameIs(begun(3, WHO_DID, "0not", "0he", "0hit"), 0, 0, -1, -1);
        gameIs(begun(2, WHO_DID, "0not", "0he", "0hit"), 1, 0, -1, -1);
        // turned twice it is GUILTY again
        gameIs(begun(3, WHO_DID, "0not", "0not", "0he", "0hit"), 1, 1, 3, 0);
        // side 1 spoils what is GUILTY, by whatever word it has
        for (String word : new String[] {"he", "hit", "not", "and", "or"}) {
            gameIs(begun(2, WHO_DID, "0he", "0hit", "1um " + word), 2, 0, -1, -1);
        }
        gameIs(begun(2, WHO_DID, "0he", "0hit", "1um"), 2, 1, -1, -1);
        // with a whom it is GUILTY still
        gameIs(begun(2, "line who did whom;" + WHO_DID, "0he", "0hit", "1cow um"), 2, 1, -1, -1);
        // side 0 makes good what side 1 spoils
        gameIs(begun(3, WHO_DID + "fact cow hit;", "0he", "0hit", "0and", "1cow he", "0hit"), 3, 0, -1, -1);
        gameIs(begun(4, WHO_DID + "fact cow hit;", "0he", "0hit", "0and", "1cow he", "0hit"), 1, 1, 4, 0);
    }

    private static void whatIsBest() {
        // silence, when it does as well: now GUILTY already, or lost anyway
        gameIs(begun(2, WHO_DID, "0he", "0hit", "0um"), 1, 1, -1, -1);
        gameIs(begun(1, WHO_DID, "0hit", "0um", "0he"), 1, 0, -1, -1);
        gameIs(begun(1, WHO_DID, "0he", "0hit", "1not"), 2, 0, -1, -1);
        // then the first WITNESS, whatever his word's number
        gameIs(begun(1, WHO_DID, "0he", "1hit", "0um cow not hit", "0hit"), 1, 1, 2, 3);
        gameIs(begun(1, WHO_DID, "0he", "1hit", "0hit", "0hit um"), 1, 1, 2, 0);
        // then his first word that does it, by its number among his own: both deeds would do
        String both = "deed ran;line who did;fact cow hit;fact cow ran;accused he hit;";
        gameIs(begun(4, both, "0he", "0hit", "0and", "0cow", "0um ran hit"), 1, 1, 4, 1);
        gameIs(begun(4, both, "0he", "0hit", "0and", "0cow", "0um hit ran"), 1, 1, 4, 1);
        // side 1 does what is best for it, too: it is not GUILTY, though one of its words would leave it so
        gameIs(begun(2, WHO_DID, "0he", "0hit", "1um hit", "1um"), 2, 0, -1, -1);
        // side 0 looks ahead: hit at once is spoiled by side 1; said last it stands
        gameIs(begun(1, WHO_DID, "0he", "0hit", "1not um"), 3, 0, -1, -1);
        gameIs(begun(1, WHO_DID, "1he", "0um hit", "0hit"), 3, 1, -1, -1);
    }

    private static void gameTold() {
        WordEach x = begun(1, WHO_DID, "1he", "1not um", "0cow um", "0not hit");
        gameIs(x, 0, 0, -1, -1);
        gameIs(x, 1, 1, 3, 1);
        gameIs(x, 2, 0, -1, -1);
        gameIs(x, 3, 0, -1, -1);
        WordEach y = begun(1, WHO_DID, "1he", "1um", "0cow um", "0not hit");
        gameIs(y, 2, 1, 3, 1);
        gameIs(y, 1, 1, 3, 1);
        gameIs(y, 3, 1, -1, -1);
        Check.due("the row stays", y.court(5), 1);
        Check.due("line", y.line(0, false), true);
        gameIs(y, 1, 0, -1, -1);
    }

    private static void noSuchGame() {
        WordEach x = begun(1, WHO_DID, "1he", "0hit");
        for (int n : new int[] {-1, 4, Integer.MIN_VALUE, Integer.MAX_VALUE}) {
            for (int what = 0; what < 3; what++) {
                Check.due("game " + n + " " + what, x.game(n, what), -2);
            }
        }
        for (int what : new int[] {-1, 3, Integer.MIN_VALUE, Integer.MAX_VALUE}) {
            for (int n = 0; n <= 3; n++) {
                Check.due("game " + n + " " + what, x.game(n, what), -2);
            }
        }
        Readings.changesNothing("game", Readings::usedCourt, y -> y.game(4, 0), -2);
    }
}
