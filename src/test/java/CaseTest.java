/** Promises 26 to 34: cases, orders, lots, chance, the inn. */
public final class CaseTest {
    private static void places() {
        WordEach x = Check.court(Check.COW);
        int[] due = {2, 3, 2, 1, 1, 1, 1, 0, -1};
        for (int place = 0; place < due.length; place++) {
            Check.due("place " + place, x.place(place), due[place]);
        }
        Check.due("place -1", x.place(-1), -1);
        Check.due("place highest", x.place(Integer.MAX_VALUE), -1);
        x.line(0, false);
        // who did alone: "he took cow" makes NO SENSE but without cow, or (case 1) so; "he took cow and" never
        Check.due("place 2 by one line", x.place(2), 1);
        Check.due("place 3 by one line", x.place(3), 2);
    }

    private static void lines() {
        WordEach x = Check.court(Check.COW);
        Check.due("turned 0", x.turned(0), 3);
        Check.due("turned 1", x.turned(1), 1);
        Check.due("turned 2", x.turned(2), -1);
        Check.due("turned -1", x.turned(-1), -1);
        Check.due("lines stay", x.court(6), 3);
        Check.due("rulings stay", x.cases(1), 2);
        x.line(1, false);
        Check.due("turned 1, not in force", x.turned(1), 0);
        Check.due("turned 0, alone", x.turned(0), 2);
        Check.due("lines stay", x.court(6), 1);
    }

    private static void cases() {
        WordEach x = Check.court(Check.COW);
        int[] due = {2, 2, 1, -1};
        for (int ruling = 0; ruling < due.length; ruling++) {
            Check.due("cases " + ruling, x.cases(ruling), due[ruling]);
        }
        Check.due("cases -1", x.cases(-1), -1);
        x.line(0, false);
        Check.due("cases 0, one line", x.cases(0), 5);
    }

    private static void orders() {
        WordEach x = Check.court("name he; deed hit; empty um; line who did; accused he hit; fact he hit;"
            + "witness a age 30 side 0 says hit; witness b age 50 side 0 says he; witness c age 30 side 1 says um;"
            + "witness d age 50 side 1 says um he;");
        int[][] due = {{0, 1, 2, 3}, {1, 3, 0, 2}, {0, 2, 1, 3}};
        for (int order = 0; order < 3; order++) {
            for (int place = 0; place < 4; place++) {
                Check.due("order " + order + " " + place, x.order(order, place), due[order][place]);
            }
            Check.due("order " + order + " 4", x.order(order, 4), -1);
            Check.due("order " + order + " -2", x.order(order, -2), -1);
            Check.due("order " + order + " ruling", x.order(order, -1), order == 1 ? 1 : 0);
        }
        Check.due("order 3", x.order(3, 0), -1);
        Check.due("order -1", x.order(-1, -1), -1);
        x.line(0, false);
        Check.due("without its line", x.order(1, -1), 0);
    }

    /** Draws as the document tells them, in whole numbers. */
    private static void lots() {
        WordEach x = Check.court("name he; deed hit; line who did; accused he hit; fact he hit;"
            + "witness a age 1 side 0 says hit; witness b age 1 side 0 says he;");
        for (int seed : new int[] {0, 1, 12345, Integer.MAX_VALUE}) {
            Check.due("seed " + seed, x.seed(seed), true);
            long drawn = seed;
            for (int n : new int[] {1, 1, 1, 5, 200}) {
                int right = 0;
                for (int lot = 0; lot < n; lot++) {
                    drawn = (1103515245L * drawn + 12345) % 2147483648L;
                    // with two left the DRAW-th one speaks first: b says he
                    right += drawn / 64 % 2 == 1 ? 1 : 0;
                    // the last one is drawn, too
                    drawn = (1103515245L * drawn + 12345) % 2147483648L;
                }
                Check.due("lots " + n + " of seed " + seed, x.lots(n), right);
            }
        }
        x.seed(7);
        int first = x.lots(50);
        x.seed(7);
        for (int n : new int[] {0, -1, 201}) {
            Check.due("lots " + n, x.lots(n), -1);
        }
        Check.due("below 0", x.seed(-1), false);
        Check.due("lowest", x.seed(Integer.MIN_VALUE), false);
        Check.due("refused", x.status(4), 2);
        Check.due("what was refused draws nothing", x.lots(50), first);
        x.seed(7);
        Check.text(x, "");
        Check.due("nobody: always alike", x.lots(200), 200);
        Check.text(x, "name he; deed hit; line who did; accused he hit; fact he hit;"
            + "witness a age 1 side 0 says hit; witness b age 1 side 0 says he;");
        Check.due("the seed stays with a text", x.lots(50), first);
    }

    private static void seedAtFirst() {
        String court = "name he; deed hit; line who did; accused he hit; fact he hit;"
            + "witness a age 1 side 0 says hit; witness b age 1 side 0 says he;";
        WordEach x = Check.court(court);
        WordEach y = Check.court(court);
        y.seed(1);
        for (int i = 0; i < 40; i++) {
            Check.due("seed 1 at first", x.lots(1), y.lots(1));
        }
    }

    /** 3 times 2 ways: he hit, he um, she hit, she um, um hit, um um. */
    private static WordEach chanceful() {
        return Check.court("name he; name she; deed hit; turn not; empty um; line who did; accused he hit;"
            + "witness a age 1 side 0 says he she um; witness b age 1 side 1 says hit um;");
    }

    private static void odds() {
        WordEach x = chanceful();
        Check.due("odds 0", x.odds(0), 833);
        Check.due("odds 1", x.odds(1), 166);
        Check.due("odds 2", x.odds(2), 0);
        Check.due("odds 3", x.odds(3), -1);
        Check.due("odds -1", x.odds(-1), -1);
        x.line(0, false);
        Check.due("odds 0 without its line", x.odds(0), 1000);
        Check.due("odds 1 without its line", x.odds(1), 0);
        x.line(0, true);
        Check.due("odds 1 with it", x.odds(1), 166);
        Check.due("odds of nobody", new WordEach().odds(0), 1000);
    }

    private static void parts() {
        WordEach x = chanceful();
        int[][][] due = {{{200, 400, 400}, {400, 600}}, {{1000, 0, 0}, {1000, 0}}, {{0, 0, 0}, {0, 0}}};
        for (int ruling = 0; ruling < 3; ruling++) {
            for (int witness = 0; witness < 2; witness++) {
                for (int k = 0; k < due[ruling][witness].length; k++) {
                    String call = "parts " + ruling + " " + witness + " " + k;
                    Check.due(call, x.parts(ruling, witness, k), due[ruling][witness][k]);
                }
            }
        }
        Check.due("parts ruling 3", x.parts(3, 0, 0), -1);
        Check.due("parts ruling -1", x.parts(-1, 0, 0), -1);
        Check.due("parts witness 2", x.parts(0, 2, 0), -1);
        Check.due("parts witness -1", x.parts(0, -1, 0), -1);
        Check.due("parts word 2", x.parts(0, 1, 2), -1);
        Check.due("parts word -1", x.parts(0, 1, -1), -1);
        x.line(0, false);
        Check.due("parts without its line", x.parts(0, 0, 0), 333);
    }

    private static void inn() {
        WordEach x = chanceful();
        Check.due("inn 1 0", x.inn(1, 0), 1);
        Check.due("inn 1 1", x.inn(1, 1), 1);
        Check.due("inn 0 0", x.inn(0, 0), 0);
        Check.due("inn 2 0", x.inn(2, 0), 0);
        WordEach y = Check.court("name he; deed hit; turn not; empty um; line who did; accused he hit;"
            + "witness a age 1 side 0 says not um he; witness b age 1 side 1 says he; witness c age 1 side 1 says hit;");
        // not he hit: CLEARED, GUILTY without a; um he hit: GUILTY, with or without him; he he hit: NO SENSE
        Check.due("inn 2 0", y.inn(2, 0), 1);
        Check.due("inn 1 0", y.inn(1, 0), 0);
        Check.due("inn 0 0", y.inn(0, 0), 1);
        Check.due("inn 0 1", y.inn(0, 1), 1);
        Check.due("inn 1 1", y.inn(1, 1), 1);
        Check.due("inn 1 2", y.inn(1, 2), 1);
        Check.due("inn 2 2", y.inn(2, 2), 1);
        Check.due("inn 3", y.inn(3, 0), -1);
        Check.due("inn -1", y.inn(-1, 0), -1);
        Check.due("inn witness 3", y.inn(0, 3), -1);
        Check.due("inn witness -1", y.inn(0, -1), -1);
        y.line(0, false);
        Check.due("inn without its line", y.inn(2, 0) + y.inn(1, 1) + y.inn(0, 0), 0);
    }

    public static void main(String[] args) {
        places();
        lines();
        cases();
        orders();
        lots();
        seedAtFirst();
        odds();
        parts();
        inn();
        Check.over("CaseTest");
    }
}
