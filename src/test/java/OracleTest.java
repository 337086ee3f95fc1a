import java.util.ArrayList;
import java.util.List;
import java.util.Random;

/** Many runs of calls by chance (always the same ones), on WordEach and on Oracle: all answers must be alike. */
public final class OracleTest {
    private static final String[] SPELLINGS = {"he", "she", "cow", "dog", "a", "b", "ran", "took", "hit", "no", "and",
        "or", "um", "er", "abcdef", "x", "y", "z", "q", "w", "likes", "if", "zz", "yy", "ageold"};
    private static final String[] KINDS = {"name", "deed", "turn", "both", "either", "empty"};
    private static final String[] LINES = {"who did", "did who", "who did whom", "whom did who", "who whom did",
        "whom who did", "did who whom", "did whom who"};

    private final Random random;
    private final WordEach x = new WordEach();
    private final Oracle y = new Oracle();
    private String text = "";

    private OracleTest(long seed) {
        random = new Random(seed);
    }

    private int pick(int n) {
        return random.nextInt(n);
    }

    private void due(String call, long got, long want) {
        Check.due(call + " in " + text, got, want);
    }

    private static long bit(boolean is) {
        return is ? 1 : 0;
    }

    private void put(byte[] bytes) {
        for (int from = 0; from < bytes.length; from += 20) {
            int[] n = new int[5];
            for (int i = 0; i < 20; i++) {
                n[i / 4] = n[i / 4] << 8 | (from + i < bytes.length ? bytes[from + i] & 255 : 32);
            }
            due("feed", x.feed(n[0], n[1], n[2], n[3], n[4]), y.feed(n));
        }
        due("end", bit(x.end(bytes.length)), bit(y.end(bytes.length)));
    }

    private String courtText(int mostWitnesses, int mostSaid) {
        StringBuilder t = new StringBuilder();
        List<String> left = new ArrayList<>(List.of(SPELLINGS));
        List<List<String>> of = new ArrayList<>();
        List<String> all = new ArrayList<>();
        int[] most = {3, 3, 2, 2, 2, 2};
        for (int kind = 0; kind < 6; kind++) {
            of.add(new ArrayList<>());
            int count = (kind < 2 ? 1 : 0) + pick(most[kind]);
            for (int i = 0; i < count; i++) {
                String word = left.remove(pick(left.size()));
                of.get(kind).add(word);
                all.add(word);
                t.append(KINDS[kind]).append(' ').append(word).append(";");
            }
        }
        for (int i = pick(5); i >= 0; i--) {
            t.append("line ").append(LINES[pick(LINES.length)]).append("; ");
        }
        for (int i = pick(6); i > 0; i--) {
            t.append("fact ").append(any(of.get(0))).append(' ').append(any(of.get(1)));
            t.append(pick(2) == 0 ? " " + any(of.get(0)) : "").append(";\n");
        }
        for (int i = pick(mostWitnesses + 1); i > 0; i--) {
            t.append("witness w").append((char) ('a' + i)).append(" age ").append(pick(4) * 20).append(" side ");
            t.append(pick(2)).append(" says");
            List<String> unsaid = new ArrayList<>(all);
            for (int k = 1 + pick(mostSaid); k > 0 && !unsaid.isEmpty(); k--) {
                boolean common = pick(2) == 0;
                String word = common ? any(of.get(pick(2))) : any(unsaid);
                if (unsaid.remove(word)) {
                    t.append(' ').append(word);
                }
            }
            if (t.toString().endsWith("says")) {
                t.append(' ').append(all.get(0));
            }
            t.append(" ; ");
        }
        if (pick(8) > 0) {
            t.append("accused ").append(any(of.get(0))).append(' ').append(any(of.get(1))).append(";");
        }
        for (int i = pick(9); i > 0; i--) {
            t.append("case");
            for (int k = 1 + pick(8); k > 0; k--) {
                t.append(' ').append(pick(3) == 0 ? any(all) : any(of.get(pick(2))));
            }
            t.append(";");
        }
        return t.toString();
    }

    private String any(List<String> list) {
        return list.get(pick(list.size()));
    }

    private static final String[] BITS = {" ", "\n", ";", "name ", "who ", "did ", "witness", " age 5 ", " side 1 ",
        "says ", "100", "2", "12345", "abcdefg", "he", "A", "\t", "case ", "line who did;", "x", "not", "first ", "(",
        ")", "[", "]", "all", "min(", ",", "+", "*", "/", "<", "at ", "has ", "0"};

    private String spoiled(String whole) {
        StringBuilder t = new StringBuilder(whole);
        for (int n = 1 + pick(2); n > 0 && t.length() > 0; n--) {
            int at = pick(t.length());
            switch (pick(4)) {
                case 0 -> t.deleteCharAt(at);
                case 1 -> t.insert(at, BITS[pick(BITS.length)]);
                case 2 -> t.setLength(at);
                default -> t.replace(at, at + 1, BITS[pick(BITS.length)]);
            }
        }
        return t.toString();
    }

    private String test(int depth) {
        return switch (pick(depth > 0 ? 8 : 3)) {
            case 0 -> "all";
            case 1, 2 -> sum(depth - 1) + "<>=".charAt(pick(3)) + sum(depth - 1);
            case 3 -> "not " + test(depth - 1);
            case 4 -> "[" + test(depth - 1) + "]";
            case 5, 6 -> test(depth - 1) + " and " + test(depth - 1);
            default -> test(depth - 1) + " or " + test(depth - 1);
        };
    }

    private String sum(int depth) {
        return switch (pick(depth > 0 ? 14 : 6)) {
            case 0 -> "" + pick(10);
            case 1 -> "" + pick(10000);
            case 2 -> "number";
            case 3 -> "words";
            case 4 -> "ruling";
            case 5 -> "fair";
            case 6 -> "at " + pick(9);
            case 7 -> "has " + pick(15);
            case 8 -> sum(depth - 1) + " + " + sum(depth - 1);
            case 9 -> sum(depth - 1) + "-" + sum(depth - 1);
            case 10 -> sum(depth - 1) + "*" + sum(depth - 1);
            case 11 -> sum(depth - 1) + "/" + sum(depth - 1);
            case 12 -> "(" + sum(depth - 1) + ")";
            default -> (pick(2) == 0 ? "min(" : "max( ") + sum(depth - 1) + "," + sum(depth - 1) + ")";
        };
    }

    private String question() {
        int depth = pick(5);
        return switch (pick(6)) {
            case 0 -> "first " + test(depth);
            case 1 -> "last " + test(depth);
            case 2 -> "often " + test(depth);
            case 3 -> "total " + sum(depth);
            case 4 -> "most " + sum(depth);
            default -> "least " + sum(depth);
        };
    }

    private void tell(String t) {
        text = t;
        put(Check.bytes(t));
        due("text", x.text(), y.text());
        due("fault 0", x.fault(0), y.fault(0));
        due("fault 1", x.fault(1), y.fault(1));
    }

    private void ask(String t) {
        put(Check.bytes(t));
        due("ask " + t, x.ask(), y.ask());
        due("fault 0 of " + t, x.fault(0), y.fault(0));
        due("fault 1 of " + t, x.fault(1), y.fault(1));
    }

    private void restore() {
        int size = y.image.size();
        byte[] bytes = new byte[size];
        for (int i = 0; i < size; i++) {
            bytes[i] = (byte) y.octet(i);
        }
        if (size > 0 && pick(3) == 0) {
            bytes[pick(size)] = (byte) pick(256);
        }
        if (size > 2 && pick(3) == 0) {
            bytes[1 + pick(size - 2)] = (byte) pick(20);
            int c = 97;
            for (int i = 0; i < size - 1; i++) {
                c = (3 * c + (bytes[i] & 255)) % 241;
            }
            bytes[size - 1] = (byte) c;
        }
        put(bytes);
        due("restore", bit(x.restore()), bit(y.restore()));
    }

    /** A number from a little below what can be to a little above. */
    private int near(int n) {
        return pick(n + 2) - 1;
    }

    private void rowCall() {
        int a = near(6);
        int b = near(4);
        boolean is = pick(2) == 0;
        switch (pick(14)) {
            case 0, 1, 2, 3, 4, 5, 6 -> due("say " + a + " " + b, x.say(a, b), y.say(a, b));
            case 7, 8 -> due("back", bit(x.back()), bit(y.back()));
            case 9 -> due("clear", x.clear(), y.clear());
            case 10, 11 -> due("line " + b + is, bit(x.line(b, is)), bit(y.line(b, is)));
            case 12 -> due("image", x.image(), y.image());
            default -> restore();
        }
    }

    private void told(boolean small) {
        int a = near(8);
        int b = near(27);
        int c = near(3);
        boolean is = pick(2) == 0;
        due("court " + a, x.court(a), y.court(a));
        due("word " + a + " " + b, x.word(a, b), y.word(a, b));
        due("word " + a + " " + c, x.word(a, c), y.word(a, c));
        due("bench " + a + " " + b, x.bench(a, b), y.bench(a, b));
        due("bench " + a + " " + c, x.bench(a, c), y.bench(a, c));
        due("grammar " + a + " " + c, x.grammar(a, c), y.grammar(a, c));
        due("row " + a + is, x.row(a, is), y.row(a, is));
        due("sense", x.sense(), y.sense());
        for (int what = -1; what < 7; what++) {
            due("means " + c + " " + what, x.means(c, what), y.means(c, what));
        }
        due("exact " + c, x.exact(c), y.exact(c));
        due("ruling " + c, x.ruling(c), y.ruling(c));
        due("instance " + a + " " + c, x.instance(a, c), y.instance(a, c));
        due("all " + c, x.all(c), y.all(c));
        due("one " + b, x.one(b), y.one(b));
        due("ill " + a, x.ill(a), y.ill(a));
        due("between " + a + " " + b, x.between(a, b), y.between(a, b));
        due("octet " + b, x.octet(b), y.octet(b));
        due("status " + a, x.status(a), y.status(a));
        due("place " + a, x.place(a), y.place(a));
        due("turned " + a, x.turned(a), y.turned(a));
        due("cases " + c, x.cases(c), y.cases(c));
        due("order " + c + " " + a, x.order(c, a), y.order(c, a));
        due("order " + c + " NONE", x.order(c, -1), y.order(c, -1));
        due("lots " + b, x.lots(b), y.lots(b));
        int seed = random.nextInt();
        if (pick(4) == 0) {
            due("seed " + seed, bit(x.seed(seed)), bit(y.seed(seed)));
        }
        if (small) {
            searched(a, c);
        }
    }

    private void searched(int a, int c) {
        int b = near(4);
        for (int n = -1; n < 5; n++) {
            for (int what = -1; what < 4; what++) {
                due("game " + n + " " + what, x.game(n, what), y.game(n, what));
            }
        }
        due("odds " + c, x.odds(c), y.odds(c));
        due("parts " + c + " " + a + " " + b, x.parts(c, a, b), y.parts(c, a, b));
        due("inn " + c + " " + a, x.inn(c, a), y.inn(c, a));
        int side = near(1);
        int kind = near(2);
        for (int k : new int[] {-2, -1, 0, 1, 2, 3, 4, 5, 9, 10, 11, 12, 13, 14, 15}) {
            due("plan " + c + " " + side + " " + kind + " " + k, x.plan(c, side, kind, k), y.plan(c, side, kind, k));
        }
    }

    private void run(int mostWitnesses, int mostSaid, int calls, boolean small) {
        for (int i = 0; i < calls; i++) {
            if (i == 0 || pick(15) == 0) {
                tell(courtText(mostWitnesses, mostSaid));
            }
            for (int n = pick(6); n > 0; n--) {
                rowCall();
            }
            told(small);
            ask(pick(4) == 0 ? spoiled(question()) : question());
            tell(spoiled(pick(2) == 0 ? text : courtText(mostWitnesses, mostSaid)));
        }
    }

    public static void main(String[] args) {
        for (int seed = 0; seed < 600; seed++) {
            new OracleTest(seed).run(3, 3, 8, true);
        }
        for (int seed = 1000; seed < 1020; seed++) {
            new OracleTest(seed).run(5, 3, 3, true);
        }
        for (int seed = 2000; seed < 2300; seed++) {
            new OracleTest(seed).run(7, 4, 20, false);
        }
        Check.over("OracleTest");
    }
}
