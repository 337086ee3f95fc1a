/** Promise 35: questions and their FAULTS. */
public final class QuestionTest {
    private static final WordEach COURT = Check.court(Check.COW);

    private static void answers(String text, long due) {
        Check.due("ask " + text, Check.ask(COURT, text), due);
        Check.due("fault of " + text, COURT.fault(0), 0);
        Check.due("place in " + text, COURT.fault(1), -1);
        Check.due("tape gone", COURT.end(1), false);
    }

    private static void faulty(String text, int fault, int place) {
        Check.due("ask " + text, Check.ask(COURT, text), WordEach.NOTHING);
        Check.due("fault of " + text, COURT.fault(0), fault);
        Check.due("place in " + text, COURT.fault(1), place);
        Check.due("tape gone", COURT.end(1), false);
    }

    private static void kinds() {
        // rulings 1 2 0 0 1, words 3 4 2 4 7, truth 1
        answers("first all", 0);
        answers("last all", 4);
        answers("often all", 5);
        answers("first not all", -1);
        answers("last not all", -1);
        answers("often not all", 0);
        answers("first ruling=0", 2);
        answers("last ruling = 0", 3);
        answers("often\nruling\n>\n0", 3);
        answers("total words", 20);
        answers("most words", 7);
        answers("least words", 2);
        answers("least words-5", -3);
        answers("total 0-words", -20);
        answers("most 0-words", -2);
        answers("total fair", 2);
        answers("total number", 10);
        answers("total ruling", 4);
        answers("total 9999", 49995);
        answers("total 0007", 35);
        WordEach none = new WordEach();
        Check.due("first without cases", Check.ask(none, "first all"), -1);
        Check.due("last without cases", Check.ask(none, "last all"), -1);
        Check.due("often without cases", Check.ask(none, "often all"), 0);
        Check.due("total without cases", Check.ask(none, "total 5"), 0);
        Check.due("most without cases", Check.ask(none, "most 5"), 0);
        Check.due("least without cases", Check.ask(none, "least 5"), 0);
    }

    private static void parts() {
        answers("first at 0=5", 1);
        answers("total at 0", 0 + 5 + 0 + 0 + 8);
        answers("most at 6", 99);
        answers("least at 6", 4);
        answers("least at 7", 99);
        answers("total at (0-1)", 495);
        answers("total at at 0", 0 + 99 + 0 + 0 + 99);
        answers("total has 4", 1 + 1 + 0 + 1 + 2);
        answers("total has 20", 0);
        answers("total has (0-1)", 0);
        answers("total has 99", 0);
        answers("total has at 0", 1 + 1 + 1 + 1 + 1);
        answers("total at 1+1", 4 + 0 + 3 + 4 + 1 + 5);
        answers("total at(1+1)", 2 + 4 + 99 + 2 + 4);
        answers("total min(words,3)", 3 + 3 + 2 + 3 + 3);
        answers("total max ( words , 3 ) ", 3 + 4 + 3 + 4 + 7);
        answers("total max(min(words,5),number)", 3 + 4 + 2 + 4 + 5);
    }

    private static void reckoning() {
        answers("most 2+3*4", 14);
        answers("most (2+3)*4", 20);
        answers("most 10-3-2", 5);
        answers("most 100/7/2", 7);
        answers("most 2*7/3", 4);
        answers("most 7/2*2", 6);
        answers("most (0-7)/2", -4);
        answers("most 7/(0-2)", -4);
        answers("most (0-7)/(0-2)", 3);
        answers("most 7/0", 0);
        answers("most (0-7)/0", 0);
        answers("most 9999*9999", 1000000);
        answers("most 0-9999*9999", -1000000);
        answers("most 9999*9999+1", 1000000);
        answers("most 9999*9999-1", 999999);
        answers("most 0-9999*9999-1", -1000000);
        answers("most 1000*1000+1-1", 999999);
        answers("most (0-1000)*1000-1+1", -999999);
        answers("total 1000*1000", 5000000);
        answers("total 0-1000*1000", -5000000);
        answers("most (1000*1000)/(0-1)", -1000000);
    }

    private static void tests() {
        answers("often 1<2", 5);
        answers("often 2<2", 0);
        answers("often 2>1", 5);
        answers("often 2>2", 0);
        answers("often 2=2", 5);
        answers("often number=0 or number=1 and number=2", 1);
        answers("often number=2 and number=1 or number=0", 1);
        answers("often [number=0 or number=1] and number=1", 1);
        answers("often not number=0 and number<2", 1);
        answers("often not [number=0 and number<2]", 4);
        answers("often not not number=0", 1);
        answers("often not all or all", 5);
        answers("first words+1>4+number", -1);
        answers("first words+2>4+number", 0);
        answers("last [[all]]", 4);
    }

    private static void byLinesInForce() {
        WordEach x = Check.court(Check.COW);
        x.line(0, false);
        Check.due("total ruling", Check.ask(x, "total ruling"), 0);
        Check.due("total fair", Check.ask(x, "total fair"), 0);
        WordEach y = Check.court("name he; deed hit; line who did; case he hit;");
        Check.due("fair without an accused", Check.ask(y, "total fair"), 1);
    }

    private static void syntaxFaults() {
        faulty("", 1, 0);
        faulty("  ", 1, 2);
        faulty("x", 1, 0);
        faulty("all", 1, 0);
        faulty("5", 1, 0);
        faulty("firstly all", 1, 0);
        faulty("first", 1, 5);
        faulty("first ", 1, 6);
        faulty("first all all", 1, 10);
        faulty("first all 5", 1, 10);
        faulty("first all;", 1, 9);
        faulty("first all or", 1, 12);
        faulty("first all and", 1, 13);
        faulty("first all or or", 1, 13);
        faulty("first 1", 1, 7);
        faulty("first 1 1", 1, 8);
        faulty("first 1<", 1, 8);
        faulty("first 1<2<3", 1, 9);
        faulty("first 1<all", 1, 8);
        faulty("first [all", 1, 10);
        faulty("first [all)", 1, 10);
        faulty("first (all)", 1, 7);
        faulty("first (1<2)", 1, 8);
        faulty("first [1]<2", 1, 8);
        faulty("first not", 1, 9);
        faulty("total all", 1, 6);
        faulty("total 1+", 1, 8);
        faulty("total +1", 1, 6);
        faulty("total -1", 1, 6);
        faulty("total 1<2", 1, 7);
        faulty("total ()", 1, 7);
        faulty("total at", 1, 8);
        faulty("total at -1", 1, 9);
        faulty("total min 1", 1, 10);
        faulty("total min", 1, 9);
        faulty("total min()", 1, 10);
        faulty("total min(1)", 1, 11);
        faulty("total min(1,)", 1, 12);
        faulty("total min(1,2", 1, 13);
        faulty("total min(1,2,3)", 1, 13);
        faulty("total (1,2)", 1, 8);
        faulty("total 12345", 1, 10);
        faulty("first all 12345", 1, 10);
        faulty("total wordsy", 1, 6);
        faulty("total Words", 1, 6);
        faulty("total 1\t", 1, 7);
        faulty("total words words", 1, 12);
        faulty("total at0", 1, 8);
        faulty("total5", 1, 5);
        faulty("first 1<2or all", 1, 9);
        faulty("first 1words<2", 1, 7);
        faulty("total first", 1, 6);
        faulty("total 1 or 2", 1, 8);
    }

    private static void openFaults() {
        answers("most ((((((1))))))", 1);
        faulty("most (((((((1)))))))", 4, 11);
        answers("often [[[[[[all]]]]]]", 5);
        faulty("often [[[[[[[all]]]]]]]", 4, 12);
        answers("often not not not not not not all", 5);
        faulty("often not not not not not not not all", 4, 30);
        answers("often not not not not not not all and not all", 0);
        faulty("total at at at at at at at 1", 4, 24);
        answers("total 0*at at at at at at 1", 0);
        answers("total 0*at at at at at at 1+0*at at at at at at 1", 0);
        faulty("total has has has has has has has 1", 4, 30);
        faulty("first not [not [at has 1", 1, 24);
        faulty("first not [not [at has (1", 4, 23);
        faulty("first not [not [at has at 1", 4, 23);
        faulty("first not [not [at has min(1", 4, 26);
        faulty("first not [not [at has 1<(((1", 4, 27);
        faulty("most min(min(min(min(min(min(min(1,1)", 4, 32);
        answers("most min(min(min(min(min(min(1,1),1),1),1),1),1)", 1);
        answers("most max(1,2)+max(3,(((((4))))))", 6);
        // what can't stand there at all is no seventh that is open
        faulty("most (((((([1]", 1, 11);
        faulty("most ((((((not 1", 1, 11);
    }

    public static void main(String[] args) {
        kinds();
        parts();
        reckoning();
        tests();
        byLinesInForce();
        syntaxFaults();
        openFaults();
        Check.due("asking is never refused", COURT.status(1), 0);
        Check.due("the court stays", COURT.court(4), 5);
        Check.over("QuestionTest");
    }
}
