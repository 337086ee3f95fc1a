import java.nio.charset.StandardCharsets;

/** What the tests share: answers that are due, texts put on the tape. */
final class Check {
    /** The court of the shared tests: 9 WORDS, 2 LINES, 2 FACTS, 4 WITNESSES, 5 CASES. */
    static final String COW =
        "name he; name she; name cow; deed ran; deed took; turn not; both and; either or; empty mama; "
        + "line who did whom; line who did; fact he took cow; fact she ran; "
        + "witness ann age 40 side 0 says he she; witness bob age 9 side 0 says took ran not; "
        + "witness cid age 70 side 1 says cow mama not; witness dan age 9 side 1 says and or; accused he took; "
        + "case he took cow; case not he took cow; case he ran; case he took cow and; "
        + "case mama she took cow or he took;";

    private static int wrong = 0;
    private static int asked = 0;
    private static String where = "";

    private Check() {
    }

    static void due(String call, long got, long want) {
        asked++;
        if (got != want) {
            wrong++;
            if (wrong <= 20) {
                System.out.println(where + call + " answered " + got + ", due is " + want);
            }
        }
    }

    static void due(String call, boolean got, boolean want) {
        due(call, got ? 1 : 0, want ? 1 : 0);
    }

    /** What the answers that follow belong to. */
    static void within(String what) {
        where = what.isEmpty() ? "" : "[" + what + "] ";
    }

    static int asked() {
        return asked;
    }

    static byte[] bytes(String text) {
        return text.getBytes(StandardCharsets.ISO_8859_1);
    }

    /** Puts a text on the tape, behind what is there. */
    static void put(WordEach x, byte[] text, int ahead) {
        for (int from = 0; from < text.length; from += 20) {
            int[] n = new int[5];
            for (int i = 0; i < 20; i++) {
                int octet = from + i < text.length ? text[from + i] & 255 : 32;
                n[i / 4] = n[i / 4] << 8 | octet;
            }
            due("feed", x.feed(n[0], n[1], n[2], n[3], n[4]), ahead + from + 20);
        }
        due("end", x.end(ahead + text.length), true);
    }

    static void put(WordEach x, String text) {
        put(x, bytes(text), 0);
    }

    static int text(WordEach x, String text) {
        put(x, text);
        return x.text();
    }

    static WordEach court(String text) {
        WordEach x = new WordEach();
        if (text(x, text) < 0) {
            due("fault " + x.fault(0) + " at " + x.fault(1) + " in " + text, 1, 0);
        }
        return x;
    }

    static void faulty(String text, int fault, int place) {
        WordEach x = new WordEach();
        due("text " + text, text(x, text), -1);
        due("fault of " + text, x.fault(0), fault);
        due("place in " + text, x.fault(1), place);
        due("refused " + text, x.status(1), 1);
        due("tape gone", x.end(1), false);
    }

    /** A text whose FAULT is where it has a ^. */
    static void marked(int fault, String text) {
        faulty(text.replace("^", ""), fault, text.indexOf('^'));
    }

    /** A text without a FAULT. */
    static WordEach taken(String text, int statements) {
        WordEach x = new WordEach();
        due("text " + text, text(x, text), statements);
        due("fault of " + text, x.fault(0), 0);
        due("place in " + text, x.fault(1), -1);
        due("refused " + text, x.status(1), 0);
        return x;
    }

    static long ask(WordEach x, String text) {
        put(x, text);
        return x.ask();
    }

    static void over(String test) {
        System.out.println(test + ": " + asked + " answers, " + wrong + " not as due");
        if (wrong != 0) {
            System.exit(1);
        }
    }
}
