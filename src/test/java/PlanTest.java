/** Promises 20 to 25: plans, undoing, one ill, one between, by turns. */
public final class PlanTest {
    private static final String WORDS = "name he; name cow; deed hit; turn not; both and; either or; empty um;";

    private static WordEach court(String rest) {
        return Check.court(WORDS + rest);
    }

    private static void planIs(WordEach x, int ruling, int side, int... witnessesAndSayings) {
        int size = witnessesAndSayings.length / 2;
        String call = "plan " + ruling + " " + side + " 0 ";
        Check.due(call + "size", x.plan(ruling, side, 0, -1), size == 0 ? -1 : size);
        for (int k = 0; k <= 5; k++) {
            Check.due(call + k, x.plan(ruling, side, 0, k), k < size ? witnessesAndSayings[2 * k] : -1);
            Check.due(call + (10 + k), x.plan(ruling, side, 0, 10 + k), k < size ? witnessesAndSayings[2 * k + 1] : -1);
        }
    }

    private static void plans() {
        WordEach x = court("line who did; accused he hit; witness a age 1 side 0 says um hit;"
            + "witness b age 1 side 1 says cow he; witness c age 1 side 0 says he not; witness d age 1 side 1 says hit;");
        planIs(x, 1, -1, 1, 1, 0, 1);
        planIs(x, 1, 0, 2, 0, 0, 1);
        planIs(x, 1, 1, 1, 1, 3, 0);
        planIs(x, 2, -1, 2, 1, 1, 1, 0, 1);
        planIs(x, 2, 0);
        planIs(x, 2, 1);
        x.line(0, false);
        planIs(x, 1, -1);
        x.line(0, true);
        planIs(x, 1, -1, 1, 1, 0, 1);
        x.say(1, 0);
        planIs(x, 1, -1, 1, 1, 0, 1);
        Check.text(x, WORDS);
        planIs(x, 1, -1);
    }

    private static void planEdges() {
        WordEach x = Check.court(Check.COW);
        planIs(x, 1, -1, 0, 0, 1, 0);
        planIs(x, 2, -1, 2, 2, 0, 0, 1, 0);
        planIs(x, 1, 1);
        for (int k : new int[] {-2, 5, 9, 15, Integer.MAX_VALUE, Integer.MIN_VALUE}) {
            Check.due("plan k " + k, x.plan(1, -1, 0, k), -1);
        }
        for (int ruling : new int[] {-1, 0, 3}) {
            Check.due("plan ruling " + ruling, x.plan(ruling, -1, 0, -1), -1);
        }
        Check.due("plan side 2", x.plan(1, 2, 0, -1), -1);
        Check.due("plan side -2", x.plan(1, -2, 0, -1), -1);
        for (int kind : new int[] {-1, 1, 2, 3}) {
            Check.due("plan kind " + kind, x.plan(1, -1, kind, -1), -1);
        }
        // four words are the most that are needed, whoever else may speak
        String four = "line who did whom; accused he hit; witness a age 1 side 0 says he um;"
            + "witness b age 1 side 0 says and hit; witness c age 1 side 0 says not he or;"
            + "witness d age 1 side 0 says cow; witness e age 1 side 1 says hit not;";
        planIs(court(four), 1, -1, 0, 0, 1, 1, 2, 1);
        planIs(court(four), 2, -1, 2, 0, 0, 0, 1, 1, 3, 0);
        planIs(court(four), 2, 0, 2, 0, 0, 0, 1, 1, 3, 0);
        planIs(court(four), 2, 1);
    }

    private static void plansByLines() {
        // whom did who: "cow hit he" is of he, "he hit cow" is not
        WordEach x = court("line whom did who; accused he hit; witness a age 1 side 0 says he;"
            + "witness b age 1 side 0 says hit; witness c age 1 side 0 says cow;");
        planIs(x, 1, -1, 2, 0, 1, 0, 0, 0);
        WordEach y = court("line who did; line who did whom; line whom who did; accused he hit;"
            + "witness a age 1 side 0 says not; witness b age 1 side 0 says hit; witness c age 1 side 0 says he;"
            + "witness d age 1 side 0 says not;");
        planIs(y, 2, -1, 0, 0, 2, 0, 1, 0);
        // of like ones the first by the number among his own, not by the WORD's: hit is he's second word here
        WordEach z = court("deed hits; line who did; line did who; accused he hit;"
            + "witness a age 1 side 0 says hits hit he; witness b age 1 side 0 says cow hit he;");
        planIs(z, 1, -1, 0, 1, 1, 2);
    }

    private static void undoing() {
        WordEach x = court("line who did; line who did whom; accused he hit;"
            + "witness a age 1 side 0 says he; witness b age 1 side 0 says hit;");
        // nothing said: no one WORD makes a SENTENCE
        Check.due("all of none", x.all(0), 0);
        Check.due("one of none", x.one(0), -1);
        x.say(0, 0);
        // he: a deed behind makes GUILTY of it
        Check.due("all", x.all(0), 1);
        Check.due("one", x.one(0), 102);
        Check.due("one more", x.one(1), -1);
        x.say(1, 0);
        // place 0: all but not (CLEARED, also another) and um; 1: all but um; 2: all but the names and um
        Check.due("pairs", x.all(0), 6 + 6 + 4);
        Check.due("places", x.all(1), 3);
        Check.due("words", x.all(2), 6);
        int[] due = {0, 1, 2, 3, 4, 5, 100, 101, 102, 103, 104, 105, 202, 203, 204, 205, -1};
        for (int k = 0; k < due.length; k++) {
            Check.due("one " + k, x.one(k), due[k]);
        }
        Check.due("one -1", x.one(-1), -1);
        Check.due("all 3", x.all(3), -1);
        Check.due("all -1", x.all(-1), -1);
    }

    private static void illAndBetween() {
        WordEach x = Check.court(Check.COW);
        x.say(2, 2);
        x.say(0, 0);
        x.say(1, 0);
        Check.due("not he took", x.ruling(0), 2);
        Check.due("he took", x.ill(2), 1);
        Check.due("not took", x.ill(0), 0);
        Check.due("not he", x.ill(1), 0);
        Check.due("unspoken", x.ill(3), -1);
        Check.due("no such", x.ill(4), -1);
        Check.due("no such", x.ill(-1), -1);
        Check.due("not not he took", x.between(0, 5), 1);
        Check.due("not not he took", x.between(1, 5), 1);
        Check.due("not he not took", x.between(2, 5), 0);
        Check.due("not he took not", x.between(3, 5), 0);
        Check.due("not he took cow", x.between(3, 2), 2);
        Check.due("not he mama took", x.between(2, 8), 2);
        Check.due("no such place", x.between(4, 5), -1);
        Check.due("no such place", x.between(-1, 5), -1);
        Check.due("no such word", x.between(0, 9), -1);
        Check.due("no such word", x.between(0, -1), -1);
        Check.due("the row stays", x.court(5), 3);
    }

    private static void gameIs(WordEach x, int n, int outcome, int witness, int saying) {
        Check.due("game " + n, x.game(n, 0), outcome);
        Check.due("game " + n + " by", x.game(n, 1), witness);
        Check.due("game " + n + " what", x.game(n, 2), saying);
    }

    private static void games() {
        WordEach x = court("line who did; line who did whom; accused he hit; witness a age 1 side 0 says um cow hit;"
            + "witness b age 1 side 1 says he not; witness c age 1 side 0 says he hit; witness d age 1 side 1 says um;");
        gameIs(x, 0, 0, -1, -1);
        gameIs(x, 1, 0, -1, -1);
        x.say(2, 0);
        // he: side 0 has a alone
        gameIs(x, 0, 0, -1, -1);
        gameIs(x, 1, 1, 0, 2);
        // side 1 then says not
        gameIs(x, 2, 0, -1, -1);
        // silence, side 1 silent, then hit: but side 1 says he or not in between
        gameIs(x, 3, 0, -1, -1);
        x.say(1, 1);
        // he not: nothing helps
        gameIs(x, 1, 0, -1, -1);
        x.back();
        x.say(0, 2);
        // he hit: guilty as it is; side 1 says not behind it
        gameIs(x, 0, 1, -1, -1);
        gameIs(x, 1, 1, -1, -1);
        gameIs(x, 2, 0, -1, -1);
        x.clear();
        x.say(1, 1);
        // not: of side 1 only d is left, who can't harm; he, then hit
        gameIs(x, 3, 0, -1, -1);
        x.clear();
        x.say(1, 0);
        // he (by side 1): hit by a; then d says um or is silent
        gameIs(x, 1, 1, 0, 2);
        gameIs(x, 2, 1, 0, 2);
        // with three: silence now, hit later is as good, and silence comes first
        gameIs(x, 3, 1, -1, -1);
        for (int n : new int[] {-1, 4}) {
            Check.due("game n " + n, x.game(n, 0), -2);
        }
        Check.due("game what 3", x.game(1, 3), -2);
        Check.due("game what -1", x.game(1, -1), -2);
        Check.due("the row stays", x.court(5), 1);
    }

    private static void sideOneDoesWell() {
        // he: side 0 says hit at once; side 1 ends it by not; were there none of side 1, it would stand
        String rest = "line who did; accused he hit; witness a age 1 side 0 says he; witness b age 1 side 0 says hit;";
        WordEach alone = court(rest);
        alone.say(0, 0);
        gameIs(alone, 2, 1, 1, 0);
        WordEach both = court(rest + "witness c age 1 side 1 says um not;");
        both.say(0, 0);
        gameIs(both, 1, 1, 1, 0);
        gameIs(both, 2, 0, -1, -1);
        gameIs(both, 3, 0, -1, -1);
        gameIs(court(rest), 3, 1, 0, 0);
    }

    public static void main(String[] args) {
        plans();
        planEdges();
        plansByLines();
        undoing();
        illAndBetween();
        games();
        sideOneDoesWell();
        Check.over("PlanTest");
    }
}
