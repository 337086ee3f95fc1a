import java.util.ArrayList;
import java.util.List;

/** The sentences of Terms III on orders, chance and cases, and of promises 26 to 34. */
final class CaseSentences {
    /** Numbers 0 .. 7. */
    private static final String WORDS = "name he;name cow;deed ran;deed hit;turn not;both and;either or;empty um;";
    private static final String WHO_DID = "line who did;accused he hit;";

    private CaseSentences() {
    }

    static void run() {
        Sentence.section("Terms");
        Sentence.says("ORDERS of all WITNESSES: 0 by seats (numbers), 1 the oldest first, 2 the youngest first (of like ones "
            + "by numbers),", CaseSentences::orders);
        Sentence.says("3 by LOT: one after the other the DRAW-th of those left.", CaseSentences::lotsOfAllSizes);
        Sentence.says("Each says his first WORD.", CaseSentences::firstWords);
        Sentence.says("A DRAW of m: x (the seed) becomes (1103515245 x + 12345) mod 2 to the 31; floor(x / 64) mod m.",
            CaseSentences::draws);
        Sentence.says("BY CHANCE each WITNESS, by seats, says one of his WORDS, all ways alike: ODDS of a RULING: floor(1000 "
            + "times the ways that bring it / all ways);", CaseSentences::oddsFloored);
        Sentence.says("PARTS: of the ways that bring it those in which a WITNESS says his k-th WORD, likewise (0 when there "
            + "are none).", CaseSentences::partsFloored);
        Sentence.says("AT THE INN: ways that bring a RULING with all, and another one with one of them away.",
            CaseSentences::atTheInn);
        Sentence.says("A PLACE decides in a CASE, if without the WORD there (or were there none) RULING is another one;",
            CaseSentences::placesThatDecide);
        Sentence.says("a LINE turns a CASE, if without it RULING is another one.", CaseSentences::linesThatTurn);
        promises();
    }

    private static void promises() {
        Sentence.section("Promise 26");
        Sentence.says("In how many CASES a PLACE (0 .. 7) decides; NONE when there is none such.", CaseSentences::placeTold);
        Sentence.section("Promise 27");
        Sentence.says("How many CASES a LINE in force turns (0 of one that is not); NONE when there is none such.",
            CaseSentences::turnedTold);
        Sentence.section("Promise 28");
        Sentence.says("How many CASES have a RULING (0 .. 2); NONE for others.", CaseSentences::casesTold);
        Sentence.section("Promise 29");
        Sentence.says("ORDERS (0 .. 2): the WITNESS at a place (place 0 and on), RULING (place NONE). NONE when there is none "
            + "such.", CaseSentences::orderTold);
        Sentence.section("Promise 30");
        Sentence.says("n LOTS (1 .. 200), one after the other: in how many the RULING is THE TRUTH.", CaseSentences::lotsTold);
        Sentence.says("NONE when n can't be.", CaseSentences::noSuchLots);
        Sentence.section("Promise 31");
        Sentence.says("The seed of LOTS: true; false, refused (4), when it is below 0. (It is 1 at first.)",
            CaseSentences::seeds);
        Sentence.section("Promise 32");
        Sentence.says("ODDS of a RULING (0 .. 2), in thousandths; NONE for others.", CaseSentences::oddsTold);
        Sentence.section("Promise 33");
        Sentence.says("PARTS, in thousandths: of a RULING, a WITNESS, his k-th WORD; NONE when there are none such.",
            CaseSentences::partsTold);
        Sentence.section("Promise 34");
        Sentence.says("AT THE INN: how many ways for a RULING (0 .. 2) and one WITNESS away; NONE when there are none such.",
            CaseSentences::innTold);
    }

    /** WITNESSES wa, wb .. of these ages. */
    private static String aged(int[] ages, String... sayings) {
        StringBuilder t = new StringBuilder();
        for (int i = 0; i < sayings.length; i++) {
            t.append("witness w").append((char) ('a' + i)).append(" age ").append(ages[i % ages.length]);
            t.append(" side ").append(i % 2).append(" says ").append(sayings[i]).append(";");
        }
        return t.toString();
    }

    private static WordEach court(String rest, String... sayings) {
        return Check.court(WORDS + rest + aged(new int[] {1}, sayings));
    }

    // ---- orders

    private static void orderIs(WordEach x, int order, int... due) {
        for (int place = 0; place < due.length; place++) {
            Check.due("order " + order + " " + place, x.order(order, place), due[place]);
        }
        Check.due("order " + order + " behind", x.order(order, due.length), -1);
    }

    private static void orders() {
        String[] um = {"um", "um", "um", "um", "um", "um", "um"};
        WordEach x = Check.court(WORDS + aged(new int[] {5, 99, 0, 50, 1, 98, 49}, um));
        orderIs(x, 0, 0, 1, 2, 3, 4, 5, 6);
        orderIs(x, 1, 1, 5, 3, 6, 0, 4, 2);
        orderIs(x, 2, 2, 4, 0, 6, 3, 5, 1);
        x = Check.court(WORDS + aged(new int[] {7}, um));
        for (int order = 0; order < 3; order++) {
            orderIs(x, order, 0, 1, 2, 3, 4, 5, 6);
        }
        x = Check.court(WORDS + aged(new int[] {3, 4, 3, 4, 3, 4, 3}, um));
        orderIs(x, 1, 1, 3, 5, 0, 2, 4, 6);
        orderIs(x, 2, 0, 2, 4, 6, 1, 3, 5);
        x = Check.court(WORDS + aged(new int[] {1, 2, 3, 4, 5, 6, 7}, um));
        orderIs(x, 1, 6, 5, 4, 3, 2, 1, 0);
        orderIs(x, 2, 0, 1, 2, 3, 4, 5, 6);
        orderIs(Check.court(WORDS + aged(new int[] {9}, "um")), 1, 0);
        orderIs(new WordEach(), 0);
    }

    private static void firstWords() {
        int[] ages = {20, 30, 10};
        String[][] sayings = {{"hit um", "he", "um hit he"}, {"um hit", "he", "hit um"}, {"he hit", "not he hit", "hit not"}};
        int[][] due = {{0, 1, 0}, {1, 1, 0}, {0, 2, 0}};
        for (int i = 0; i < sayings.length; i++) {
            WordEach x = Check.court(WORDS + WHO_DID + aged(ages, sayings[i]));
            for (int order = 0; order < 3; order++) {
                Check.due("ruling of order " + order, x.order(order, -1), due[i][order]);
            }
        }
        WordEach x = Check.court(WORDS + WHO_DID + aged(new int[] {20, 10}, "hit", "he"));
        Check.due("by seats", x.order(0, -1), 0);
        Check.due("the oldest first", x.order(1, -1), 0);
        Check.due("the youngest first", x.order(2, -1), 1);
        // his first WORD in a LOT, too: with each first word no LOT brings the truth
        x = court(WHO_DID + "fact he hit;", "um he", "hit");
        Check.due("lots", x.lots(50), 0);
    }

    private static void orderTold() {
        WordEach x = Check.court(WORDS + WHO_DID + aged(new int[] {20, 30, 10}, "he", "not", "hit"));
        orderIs(x, 0, 0, 1, 2);
        orderIs(x, 1, 1, 0, 2);
        orderIs(x, 2, 2, 0, 1);
        Check.due("ruling by seats", x.order(0, -1), 0);
        Check.due("ruling of the oldest first", x.order(1, -1), 2);
        Check.due("ruling of the youngest first", x.order(2, -1), 0);
        Check.due("say", x.say(2, 0), 1);
        Check.due("the row at hand is nothing to it", x.order(1, -1), 2);
        for (int order : new int[] {-1, 3, Integer.MIN_VALUE, Integer.MAX_VALUE}) {
            Check.due("order " + order, x.order(order, 0), -1);
            Check.due("order " + order + " ruling", x.order(order, -1), -1);
        }
        for (int place : new int[] {-2, 3, 7, Integer.MIN_VALUE, Integer.MAX_VALUE}) {
            Check.due("order place " + place, x.order(1, place), -1);
        }
        Check.due("line", x.line(0, false), true);
        Check.due("by the lines in force", x.order(1, -1), 0);
        for (int order = 0; order < 3; order++) {
            Check.due("nobody's ruling", new WordEach().order(order, -1), 0);
            Check.due("nobody", new WordEach().order(order, 0), -1);
        }
        Readings.changesNothing("order", Readings::usedCourt, y -> y.order(3, 0), -1);
    }

    // ---- lots

    private static long drawn;

    private static int draw(int m) {
        drawn = (1103515245L * drawn + 12345L) % (1L << 31);
        return (int) Math.floorMod(Math.floorDiv(drawn, 64L), (long) m);
    }

    /** Whether in a LOT of n WITNESSES the first three of them, who say not, he, hit, speak in this order. */
    private static boolean isNotHeHit(int n) {
        List<Integer> left = new ArrayList<>();
        for (int i = 0; i < n; i++) {
            left.add(i);
        }
        List<Integer> order = new ArrayList<>();
        while (!left.isEmpty()) {
            order.add(left.remove(draw(left.size())));
        }
        return order.indexOf(0) < order.indexOf(1) && order.indexOf(1) < order.indexOf(2);
    }

    /** WITNESSES who say not, he, hit, and um: CLEARED (the truth) only if the three speak in this order. */
    private static WordEach notHeHit(int n) {
        String[] sayings = {"not", "he", "hit", "um", "um", "um", "um"};
        return court(WHO_DID, java.util.Arrays.copyOf(sayings, n));
    }

    private static void lotsOfAllSizes() {
        for (int n = 3; n <= 7; n++) {
            WordEach x = notHeHit(n);
            Check.due("seed", x.seed(n), true);
            drawn = n;
            for (int lot = 0; lot < 60; lot++) {
                Check.due("lot " + lot + " of " + n, x.lots(1), isNotHeHit(n) ? 1 : 0);
            }
        }
        // those left are left by seats, whatever their ages
        WordEach aged = Check.court(WORDS + WHO_DID + aged(new int[] {10, 30, 20}, "not", "he", "hit", "um", "um"));
        Check.due("seed", aged.seed(9), true);
        drawn = 9;
        for (int lot = 0; lot < 60; lot++) {
            Check.due("lot " + lot + " of all ages", aged.lots(1), isNotHeHit(5) ? 1 : 0);
            Check.due("ordered in between", aged.order(1 + lot % 2, 0) >= 0, true);
        }
        // with two, and with one, who is drawn as the last of all is
        WordEach x = court(WHO_DID + "fact he hit;", "hit", "he");
        Check.due("seed", x.seed(5), true);
        drawn = 5;
        for (int lot = 0; lot < 60; lot++) {
            boolean heFirst = draw(2) == 1;
            draw(1);
            Check.due("lot " + lot + " of 2", x.lots(1), heFirst ? 1 : 0);
        }
        Check.due("seed", x.seed(5), true);
        Check.due("text", Check.text(x, WORDS + "witness w age 1 side 0 says um;"), 9);
        Check.due("a lot of one", x.lots(3), 3);
        Check.due("text", Check.text(x, WORDS + WHO_DID + "fact he hit;" + aged(new int[] {1}, "hit", "he")), 13);
        drawn = 5;
        draw(1);
        draw(1);
        draw(1);
        Check.due("the three draws of one count", x.lots(1), draw(2));
    }

    private static void draws() {
        for (int seed : new int[] {0, 1, 2, 63, 64, 65, 12345, 1 << 30, Integer.MAX_VALUE - 1, Integer.MAX_VALUE}) {
            for (int n : new int[] {3, 5, 7}) {
                WordEach x = notHeHit(n);
                Check.due("seed " + seed, x.seed(seed), true);
                drawn = seed;
                for (int lot = 0; lot < 25; lot++) {
                    Check.due("lot " + lot + " of seed " + seed, x.lots(1), isNotHeHit(n) ? 1 : 0);
                }
            }
        }
    }

    private static void lotsTold() {
        for (int n : new int[] {1, 2, 100, 199, 200}) {
            WordEach x = notHeHit(4);
            drawn = 1;
            for (int again = 0; again < 2; again++) {
                int due = 0;
                for (int lot = 0; lot < n; lot++) {
                    due += isNotHeHit(4) ? 1 : 0;
                }
                Check.due("lots " + n, x.lots(n), due);
            }
        }
        // free is the truth without an accused; by no LINE nothing else comes
        WordEach x = court("line who did;fact he hit;", "he", "hit");
        Check.due("without an accused", x.lots(200), 200);
        WordEach y = court(WHO_DID, "he", "hit");
        Check.due("never cleared", y.lots(200), 0);
        Check.due("of nobody", new WordEach().lots(200), 200);
        WordEach z = court("line who did;line did who;accused he hit;fact he hit;", "he", "hit");
        Check.due("whatever the order", z.lots(200), 200);
        Check.due("line", z.line(0, false), true);
        Check.due("line", z.line(1, false), true);
        Check.due("by the lines in force", z.lots(200), 0);
    }

    private static void noSuchLots() {
        for (int n : new int[] {0, -1, 201, 202, Integer.MIN_VALUE, Integer.MAX_VALUE}) {
            Readings.changesNothing("lots " + n, Readings::usedCourt, x -> x.lots(n), -1);
        }
    }

    private static void seeds() {
        for (int seed : new int[] {-1, -2, Integer.MIN_VALUE}) {
            Readings.refused("seed " + seed, Readings::usedCourt, x -> x.seed(seed) ? 1 : 0, 0, 4);
            Readings.refused("seed " + seed, WordEach::new, x -> x.seed(seed) ? 1 : 0, 0, 4);
        }
        for (int seed : new int[] {0, 1, Integer.MAX_VALUE}) {
            Check.due("seed " + seed, new WordEach().seed(seed), true);
        }
        WordEach first = notHeHit(5);
        drawn = 1;
        for (int lot = 0; lot < 60; lot++) {
            Check.due("at first, lot " + lot, first.lots(1), isNotHeHit(5) ? 1 : 0);
        }
        Check.due("seed", first.seed(1), true);
        drawn = 1;
        for (int lot = 0; lot < 60; lot++) {
            Check.due("1 again, lot " + lot, first.lots(1), isNotHeHit(5) ? 1 : 0);
        }
        Check.due("refused", first.status(4), 0);
    }

    // ---- chance

    private static void oddsFloored() {
        // of three, of six, of nine, of sixteen ways one is GUILTY
        oddsAre(court(WHO_DID, "he um cow", "hit"), 666, 333, 0);
        oddsAre(court(WHO_DID, "he um cow", "hit um"), 833, 166, 0);
        oddsAre(court(WHO_DID, "he um cow", "hit um cow"), 888, 111, 0);
        oddsAre(court(WHO_DID, "he um cow ran", "hit um cow ran"), 937, 62, 0);
        oddsAre(court(WHO_DID, "not um", "he", "hit"), 0, 500, 500);
        oddsAre(court(WHO_DID, "not um cow", "he", "hit"), 333, 333, 333);
        oddsAre(court(WHO_DID, "not", "he cow um", "hit ran um"), 888, 0, 111);
        oddsAre(court(WHO_DID, "he", "hit"), 0, 1000, 0);
        oddsAre(court(WHO_DID, "hit", "he"), 1000, 0, 0);
        oddsAre(court("line who did;", "he", "hit"), 1000, 0, 0);
        oddsAre(court(WHO_DID), 1000, 0, 0);
        oddsAre(new WordEach(), 1000, 0, 0);
        oddsAre(sevenTimesFour(), 937, 62, 0);
        // one of 16384 ways
        WordEach x = court(WHO_DID, "he cow ran hit", "hit cow ran he", "um cow ran he", "um cow ran he", "um cow ran he",
            "um cow ran he", "um cow ran he");
        oddsAre(x, 999, 0, 0);
        Check.due("though there is one", x.parts(1, 0, 0), 1000);
    }

    private static void oddsAre(WordEach x, int... due) {
        for (int ruling = 0; ruling < 3; ruling++) {
            Check.due("odds " + ruling, x.odds(ruling), due[ruling]);
        }
    }

    /** 16384 ways: he hit, and five who say nothing that counts. */
    private static WordEach sevenTimesFour() {
        String nothing = "um uma umb umc";
        return court("empty uma;empty umb;empty umc;" + WHO_DID, "he cow um uma", "hit ran um uma", nothing, nothing, nothing,
            nothing, nothing);
    }

    private static void partsFloored() {
        WordEach x = court(WHO_DID, "not um cow", "he", "hit");
        int[][] due = {{0, 0, 1000}, {0, 1000, 0}, {1000, 0, 0}};
        for (int ruling = 0; ruling < 3; ruling++) {
            for (int k = 0; k < 3; k++) {
                Check.due("parts " + ruling + " 0 " + k, x.parts(ruling, 0, k), due[ruling][k]);
            }
            Check.due("who has one word", x.parts(ruling, 1, 0), 1000);
        }
        // three ways to GUILTY: he hit, he um hit, um he hit; of ten that are free
        WordEach y = court(WHO_DID, "he um", "he um", "hit um ran");
        oddsAre(y, 833, 166, 0);
        Check.due("he um hit, um he hit", y.parts(1, 0, 0), 500);
        Check.due("hit in both", y.parts(1, 2, 0), 1000);
        Check.due("never um", y.parts(1, 2, 1), 0);
        Check.due("of ten ways five", y.parts(0, 0, 0), 500);
        Check.due("of ten ways two", y.parts(0, 2, 0), 200);
        Check.due("of ten ways four", y.parts(0, 2, 1), 400);
        Check.due("none to cleared", y.parts(2, 0, 0), 0);
        WordEach z = sevenTimesFour();
        Check.due("of 15360 ways 3072", z.parts(0, 0, 0), 200);
        Check.due("of 15360 ways 4096", z.parts(0, 0, 3), 266);
        Check.due("one of four", z.parts(0, 6, 3), 250);
        Check.due("one of four", z.parts(1, 6, 3), 250);
        WordEach none = court("line who did;", "he um", "hit");
        for (int k = 0; k < 2; k++) {
            Check.due("none to guilty", none.parts(1, 0, k), 0);
            Check.due("none to cleared", none.parts(2, 0, k), 0);
            Check.due("half of all", none.parts(0, 0, k), 500);
        }
        Check.due("none is free", court(WHO_DID, "he", "hit").parts(0, 0, 0), 0);
    }

    private static void atTheInn() {
        WordEach x = court(WHO_DID, "not um he", "he", "hit");
        // not he hit: CLEARED; um he hit: GUILTY; he he hit: NO SENSE
        int[][] due = {{1, 1, 0}, {0, 1, 1}, {1, 1, 1}};
        for (int ruling = 0; ruling < 3; ruling++) {
            for (int away = 0; away < 3; away++) {
                Check.due("inn " + ruling + " " + away, x.inn(ruling, away), due[ruling][away]);
            }
        }
        WordEach y = sevenTimesFour();
        Check.due("without he", y.inn(1, 0), 1024);
        Check.due("without hit", y.inn(1, 1), 1024);
        Check.due("without um", y.inn(1, 6), 0);
        Check.due("free it stays", y.inn(0, 0), 0);
        WordEach z = court(WHO_DID, "he", "hit ran", "cow um", "and or");
        // he hit .. and, or: NO SENSE by the last word; without him he hit um is GUILTY
        Check.due("free, guilty without the last", z.inn(0, 3), 2);
        Check.due("nobody is guilty", z.inn(1, 0), 0);
        Check.due("the only one", court(WHO_DID, "he").inn(0, 0), 0);
    }

    private static void oddsTold() {
        WordEach x = court(WHO_DID, "not um cow", "he", "hit");
        oddsAre(x, 333, 333, 333);
        Check.due("line", x.line(0, false), true);
        oddsAre(x, 1000, 0, 0);
        Check.due("line", x.line(0, true), true);
        oddsAre(x, 333, 333, 333);
        Check.due("say", x.say(0, 2), 1);
        oddsAre(x, 333, 333, 333);
        Check.due("text", Check.text(x, WORDS + WHO_DID + aged(new int[] {1}, "he", "hit um")), 12);
        oddsAre(x, 500, 500, 0);
        for (int ruling : new int[] {-1, 3, Integer.MIN_VALUE, Integer.MAX_VALUE}) {
            Check.due("odds " + ruling, x.odds(ruling), -1);
        }
        Readings.changesNothing("odds", Readings::usedCourt, y -> y.odds(3), -1);
    }

    private static void partsTold() {
        WordEach x = court(WHO_DID, "not um cow", "he", "hit");
        for (int ruling : new int[] {-1, 3, Integer.MIN_VALUE, Integer.MAX_VALUE}) {
            Check.due("parts of " + ruling, x.parts(ruling, 0, 0), -1);
        }
        for (int witness : new int[] {-1, 3, 7, Integer.MIN_VALUE, Integer.MAX_VALUE}) {
            Check.due("parts of witness " + witness, x.parts(1, witness, 0), -1);
        }
        for (int k : new int[] {-1, 3, 4, Integer.MIN_VALUE, Integer.MAX_VALUE}) {
            Check.due("parts of word " + k, x.parts(1, 0, k), -1);
        }
        Check.due("the last one of one", x.parts(1, 2, 0), 1000);
        Check.due("none behind it", x.parts(1, 2, 1), -1);
        Check.due("his last word", x.parts(0, 0, 2), 1000);
        Check.due("of nobody", new WordEach().parts(0, 0, 0), -1);
        Check.due("line", x.line(0, false), true);
        Check.due("by the lines in force", x.parts(0, 0, 2), 333);
        // asked again and again, each time anew: as the first time
        for (int again = 0; again < 3; again++) {
            Check.due("line", x.line(0, true), true);
            for (int ruling = 0; ruling < 3; ruling++) {
                for (int k = 0; k < 3; k++) {
                    Check.due("parts " + ruling + " 0 " + k, x.parts(ruling, 0, k), k == 2 - ruling ? 1000 : 0);
                    Check.due("inn " + ruling, x.inn(ruling, 1), ruling == 0 ? 0 : 1);
                }
            }
            Check.due("line", x.line(0, false), true);
            for (int k = 0; k < 3; k++) {
                Check.due("parts 0 0 " + k, x.parts(0, 0, k), 333);
                Check.due("parts 1 0 " + k, x.parts(1, 0, k), 0);
            }
        }
        Readings.changesNothing("parts", Readings::usedCourt, y -> y.parts(0, 4, 0), -1);
    }

    private static void innTold() {
        WordEach x = court(WHO_DID, "not um he", "he", "hit");
        Check.due("inn", x.inn(2, 0), 1);
        for (int ruling : new int[] {-1, 3, Integer.MIN_VALUE, Integer.MAX_VALUE}) {
            Check.due("inn " + ruling, x.inn(ruling, 0), -1);
        }
        for (int witness : new int[] {-1, 3, 7, Integer.MIN_VALUE, Integer.MAX_VALUE}) {
            Check.due("inn of witness " + witness, x.inn(0, witness), -1);
        }
        Check.due("of nobody", new WordEach().inn(0, 0), -1);
        Check.due("line", x.line(0, false), true);
        for (int ruling = 0; ruling < 3; ruling++) {
            Check.due("by no line", x.inn(ruling, 0), 0);
        }
        Check.due("line", x.line(0, true), true);
        Check.due("inn", x.inn(2, 0), 1);
        Readings.changesNothing("inn", Readings::usedCourt, y -> y.inn(0, 4), -1);
    }

    // ---- cases

    private static void placesAre(WordEach x, int... due) {
        for (int place = 0; place < 8; place++) {
            Check.due("place " + place, x.place(place), place < due.length ? due[place] : 0);
        }
    }

    private static void placesThatDecide() {
        placesAre(court(WHO_DID + "case he hit;"), 1, 1);
        placesAre(court(WHO_DID + "case not he hit;"), 1, 1, 1);
        placesAre(court(WHO_DID + "case um he um hit um;"), 0, 1, 0, 1, 0);
        // a word too many decides, too: without it the RULING is one
        placesAre(court(WHO_DID + "case he he hit;"), 1, 1);
        placesAre(court(WHO_DID + "case he hit or;"), 0, 0, 1);
        placesAre(court(WHO_DID + "case he;"), 0);
        placesAre(court(WHO_DID + "case um;"), 0);
        placesAre(court("line who did;fact he hit;case he hit;"), 0, 0);
        // the eighth place
        placesAre(court(WHO_DID + "case not not not not not not he hit;"), 1, 1, 1, 1, 1, 1, 1, 1);
        placesAre(court(WHO_DID + "case um um um um um um he hit;"), 0, 0, 0, 0, 0, 0, 1, 1);
        placesAre(court(WHO_DID + "case he hit and he hit;"), 1, 1, 1, 1, 1);
        placesAre(new WordEach());
    }

    private static void linesThatTurn() {
        WordEach x = court("line who did;line did who;line who did;accused he hit;case he hit;case hit he;case not hit he;"
            + "case hit cow;");
        // he hit: by line 0, or else by 2 alike; hit he: by line 1 alone
        Check.due("another one fits as well", x.turned(0), 0);
        Check.due("the only one that fits", x.turned(1), 2);
        Check.due("never asked", x.turned(2), 0);
        Check.due("line", x.line(2, false), true);
        Check.due("now the only one", x.turned(0), 1);
        WordEach y = court("line who did whom;line whom did who;accused he hit;case he hit cow;case cow hit he;"
            + "case he hit he;");
        // without line 0 cow is who in the first case: free; he in the second: GUILTY
        Check.due("another one is who", y.turned(0), 2);
        Check.due("the second is never asked", y.turned(1), 0);
        Check.due("without a case", court(WHO_DID).turned(0), 0);
        Check.due("without an accused", court("line who did;case he hit;").turned(0), 0);
    }

    private static void placeTold() {
        StringBuilder t = new StringBuilder(WHO_DID);
        for (int n = 1; n <= 8; n++) {
            t.append("case he hit;");
            WordEach x = court(t.toString());
            Check.due("in all " + n, x.place(0), n);
            Check.due("in all " + n, x.place(1), n);
            Check.due("in none", x.place(2), 0);
            Check.due("in none", x.place(7), 0);
        }
        for (int place : new int[] {-1, 8, 9, Integer.MIN_VALUE, Integer.MAX_VALUE}) {
            Check.due("place " + place, court(t.toString()).place(place), -1);
            Check.due("place " + place + " of none", new WordEach().place(place), -1);
        }
        WordEach x = court(t.toString());
        Check.due("line", x.line(0, false), true);
        Check.due("by the lines in force", x.place(0), 0);
        Readings.changesNothing("place", Readings::usedCourt, y -> y.place(8), -1);
    }

    private static void turnedTold() {
        StringBuilder t = new StringBuilder("line did who;line who did;line whom did who;line whom who did;line who did whom;"
            + "line did who whom;accused he hit;");
        for (int n = 1; n <= 8; n++) {
            t.append(n % 2 == 0 ? "case he hit;" : "case not he hit;");
            Check.due("all " + n, court(t.toString()).turned(1), n);
        }
        WordEach x = court(t.toString());
        for (int line = 0; line < 6; line++) {
            Check.due("turned " + line, x.turned(line), line == 1 ? 8 : 0);
        }
        for (int line : new int[] {-1, 6, 31, 32, 33, Integer.MIN_VALUE, Integer.MAX_VALUE}) {
            Check.due("turned " + line, x.turned(line), -1);
        }
        Check.due("line", x.line(1, false), true);
        Check.due("one that is not in force", x.turned(1), 0);
        Check.due("it is not in force still", x.court(6), 61);
        Check.due("line", x.line(1, true), true);
        Check.due("turned again", x.turned(1), 8);
        Check.due("it is in force still", x.court(6), 63);
        Check.due("line of none", new WordEach().turned(0), -1);
        Readings.changesNothing("turned", Readings::usedCourt, y -> y.turned(2), -1);
        Readings.changesNothing("turned", Readings::usedCourt, y -> y.turned(0), 0);
    }

    private static void casesTold() {
        WordEach x = court(WHO_DID + "case he hit;case not he hit;case he;case cow hit;case he hit;case not not he hit;"
            + "case not cow hit;case um;");
        int[] due = {4, 3, 1};
        for (int ruling = 0; ruling < 3; ruling++) {
            Check.due("cases " + ruling, x.cases(ruling), due[ruling]);
            Check.due("cases of none", new WordEach().cases(ruling), 0);
        }
        for (int ruling : new int[] {-1, 3, Integer.MIN_VALUE, Integer.MAX_VALUE}) {
            Check.due("cases " + ruling, x.cases(ruling), -1);
        }
        Check.due("line", x.line(0, false), true);
        Check.due("by the lines in force", x.cases(0), 8);
        Readings.changesNothing("cases", Readings::usedCourt, y -> y.cases(3), -1);
    }
}
