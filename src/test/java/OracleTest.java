import java.util.ArrayList;
import java.util.List;
import java.util.Random;

/** Many runs of calls by chance (always the same ones), on WordEach and on Oracle: all answers must be alike. */
public final class OracleTest {
    private static final String[] SPELLINGS = {"he", "she", "cow", "dog", "a", "b", "ran", "took", "hit", "no", "and",
        "or", "um", "er", "abcdef", "x", "y", "z", "q", "w", "likes", "if", "zz", "yy", "ageold"};
    private static final String[] KINDS = {"name", "deed", "turn", "both", "either", "empty"};
    private static final String[] LINES = {"who did", "did who", "who did whom", "whom did who", "who whom did",
        "whom who did", "did who whom", "did whom who"};

    private final Random random;
    private final WordEach x = new WordEach();
    private final Oracle y = new Oracle();
    private String text = "";

    private OracleTest(long seed) {
        random = new Random(seed);
    }

    private int pick(int n) {
        return random.nextInt(n);
    }

    private void due(String call, long got, long want) {
        Check.due(call + " in " + text, got, want);
    }

    private static long bit(boolean is) {
        return is ? 1 : 0;
    }

    private void put(byte[] bytes) {
        for (int from = 0; from < bytes.length; from += 20) {
            int[] n = new int[5];
            for (int i = 0; i < 20; i++) {
                n[i / 4] = n[i / 4] << 8 | (from + i < bytes.length ? bytes[from + i] & 255 : 32);
            }
            due("feed", x.feed(n[0], n[1], n[2], n[3], n[4]), y.feed(n));
        }
        due("end", bit(x.end(bytes.length)), bit(y.end(bytes.length)));
    }

    /** A text without FAULTS, whose words go together often enough. */
    private String courtText(int mostWitnesses, int mostSaid) {
        StringBuilder t = new StringBuilder();
        List<String> left = new ArrayList<>(List.of(SPELLINGS));
        List<List<String>> of = new ArrayList<>();
        int[] most = {2, 2, 2, 2, 2, 2};
        for (int kind = 0; kind < 6; kind++) {
            of.add(new ArrayList<>());
            for (int i = (kind < 2 ? 1 : 0) + pick(most[kind]); i > 0; i--) {
                String word = left.remove(pick(left.size()));
                of.get(kind).add(word);
                t.append(KINDS[kind]).append(' ').append(word).append(";");
            }
        }
        List<String> lines = new ArrayList<>();
        for (int i = pick(5); i >= 0; i--) {
            String line = LINES[pick(pick(2) == 0 ? 2 : LINES.length)];
            lines.add(line);
            t.append("line ").append(line).append("; ");
        }
        for (int i = pick(6); i > 0; i--) {
            t.append("fact ").append(any(of.get(0))).append(' ').append(any(of.get(1)));
            t.append(pick(2) == 0 ? " " + any(of.get(0)) : "").append(";\n");
        }
        if (pick(8) > 0) {
            t.append("accused ").append(any(of.get(0))).append(' ').append(any(of.get(1))).append(";");
        }
        for (int i = mostWitnesses - pick(pick(4) + 1); i > 0; i--) {
            t.append("witness w").append((char) ('a' + i)).append(" age ").append(pick(4) * 20).append(" side ");
            t.append(pick(2)).append(" says").append(sayings(of, mostSaid)).append(" ; ");
        }
        for (int i = pick(9); i > 0; i--) {
            t.append("case").append(caseWords(of, lines)).append(";");
        }
        return t.toString();
    }

    private String wordOf(List<List<String>> of) {
        int kind = pick(3) > 0 ? pick(2) : pick(6);
        return of.get(kind).isEmpty() ? of.get(0).get(0) : any(of.get(kind));
    }

    private String sayings(List<List<String>> of, int most) {
        List<String> said = new ArrayList<>();
        for (int k = 1 + pick(most); k > 0; k--) {
            String word = wordOf(of);
            if (!said.contains(word)) {
                said.add(word);
            }
        }
        return " " + String.join(" ", said);
    }

    private String caseWords(List<List<String>> of, List<String> lines) {
        List<String> words = new ArrayList<>();
        for (int clauses = 1 + pick(3); clauses > 0; clauses--) {
            for (int kind : new int[] {2, 2, 5}) {
                if (pick(3) == 0 && !of.get(kind).isEmpty()) {
                    words.add(any(of.get(kind)));
                }
            }
            for (String slot : any(lines).split(" ")) {
                words.add(any(of.get(slot.equals("did") ? 1 : 0)));
            }
            List<String> bindings = of.get(3 + pick(2));
            if (bindings.isEmpty()) {
                break;
            }
            if (clauses > 1) {
                words.add(any(bindings));
            }
        }
        if (pick(4) == 0) {
            words.add(pick(words.size()), wordOf(of));
        }
        return " " + String.join(" ", words.subList(0, Math.min(8, words.size())));
    }

    private String any(List<String> list) {
        return list.get(pick(list.size()));
    }

    private static final String[] BITS = {" ", "\n", ";", "name ", "who ", "did ", "witness", " age 5 ", " side 1 ",
        "says ", "100", "2", "12345", "abcdefg", "he", "A", "\t", "case ", "line who did;", "x", "not", "first ", "(",
        ")", "[", "]", "all", "min(", ",", "+", "*", "/", "<", "at ", "has ", "0"};

    private String spoiled(String whole) {
        StringBuilder t = new StringBuilder(whole);
        for (int n = 1 + pick(2); n > 0 && t.length() > 0; n--) {
            int at = pick(t.length());
            switch (pick(4)) {
                case 0 -> t.deleteCharAt(at);
                case 1 -> t.insert(at, BITS[pick(BITS.length)]);
                case 2 -> t.setLength(at);
                default -> t.replace(at, at + 1, BITS[pick(BITS.length)]);
            }
        }
        return t.toString();
    }

    private String test(int depth) {
        return switch (pick(depth > 0 ? 8 : 3)) {
            case 0 -> "all";
            case 1, 2 -> sum(depth - 1) + "<>=".charAt(pick(3)) + sum(depth - 1);
            case 3 -> "not " + test(depth - 1);
            case 4 -> "[" + test(depth - 1) + "]";
            case 5, 6 -> test(depth - 1) + " and " + test(depth - 1);
            default -> test(depth - 1) + " or " + test(depth - 1);
        };
    }

    private String sum(int depth) {
        return switch (pick(depth > 0 ? 14 : 6)) {
            case 0 -> "" + pick(10);
            case 1 -> "" + pick(10000);
            case 2 -> "number";
            case 3 -> "words";
            case 4 -> "ruling";
            case 5 -> "fair";
            case 6 -> "at " + pick(9);
            case 7 -> "has " + pick(15);
            case 8 -> sum(depth - 1) + " + " + sum(depth - 1);
            case 9 -> sum(depth - 1) + "-" + sum(depth - 1);
            case 10 -> sum(depth - 1) + "*" + sum(depth - 1);
            case 11 -> sum(depth - 1) + "/" + sum(depth - 1);
            case 12 -> "(" + sum(depth - 1) + ")";
            default -> (pick(2) == 0 ? "min(" : "max( ") + sum(depth - 1) + "," + sum(depth - 1) + ")";
        };
    }

    private String question() {
        int depth = pick(5);
        return switch (pick(6)) {
            case 0 -> "first " + test(depth);
            case 1 -> "last " + test(depth);
            case 2 -> "often " + test(depth);
            case 3 -> "total " + sum(depth);
            case 4 -> "most " + sum(depth);
            default -> "least " + sum(depth);
        };
    }

    private void tell(String t) {
        text = t;
        put(Check.bytes(t));
        due("text", x.text(), y.text());
        due("fault 0", x.fault(0), y.fault(0));
        due("fault 1", x.fault(1), y.fault(1));
    }

    private void ask(String t) {
        put(Check.bytes(t));
        due("ask " + t, x.ask(), y.ask());
        due("fault 0 of " + t, x.fault(0), y.fault(0));
        due("fault 1 of " + t, x.fault(1), y.fault(1));
    }

    private void restore() {
        int size = y.image.size();
        byte[] bytes = new byte[size];
        for (int i = 0; i < size; i++) {
            bytes[i] = (byte) y.octet(i);
        }
        if (size > 0 && pick(3) == 0) {
            bytes[pick(size)] = (byte) pick(256);
        }
        if (size > 2 && pick(3) == 0) {
            bytes[1 + pick(size - 2)] = (byte) pick(20);
            int c = 97;
            for (int i = 0; i < size - 1; i++) {
                c = (3 * c + (bytes[i] & 255)) % 241;
            }
            bytes[size - 1] = (byte) c;
        }
        put(bytes);
        due("restore", bit(x.restore()), bit(y.restore()));
    }

    /** A number from a little below what can be to a little above. */
    private int near(int n) {
        return pick(n + 2) - 1;
    }

    private void rowCall() {
        int a = near(y.court.bench.size());
        int b = near(3);
        int line = near(y.court.lines.size());
        boolean is = pick(3) > 0;
        switch (pick(14)) {
            case 0, 1, 2 -> due("say " + a + " " + b, x.say(a, b), y.say(a, b));
            case 3, 4, 5, 6 -> speakWithSense();
            case 7, 8 -> due("back", bit(x.back()), bit(y.back()));
            case 9 -> due("clear", x.clear(), y.clear());
            case 10, 11 -> due("line " + line + is, bit(x.line(line, is)), bit(y.line(line, is)));
            case 12 -> due("image", x.image(), y.image());
            default -> restore();
        }
    }

    /** Clears the ROW and lets WITNESSES speak so that it makes sense, if one of many tries does. */
    private void speakWithSense() {
        for (int tries = 0; tries < 30; tries++) {
            y.row.clear();
            List<int[]> said = new ArrayList<>();
            for (int n = 2 + pick(6); n > 0 && !y.court.bench.isEmpty(); n--) {
                int witness = pick(y.court.bench.size());
                int k = pick(y.court.bench.get(witness).words().size());
                if (y.say(witness, k) < 0) {
                    y.refused[2]--;
                } else {
                    said.add(new int[] {witness, k});
                }
            }
            if (y.sense() == Oracle.NONE || tries == 29) {
                x.clear();
                for (int i = 0; i < said.size(); i++) {
                    due("say", x.say(said.get(i)[0], said.get(i)[1]), i + 1);
                }
                return;
            }
        }
    }

    private void told(boolean small) {
        int a = near(8);
        int b = near(27);
        int c = near(3);
        int w = near(y.court.bench.size());
        int r = near(y.row.size());
        int l = near(y.court.lines.size());
        boolean is = pick(2) == 0;
        due("court " + a, x.court(a), y.court(a));
        due("word " + a + " " + b, x.word(a, b), y.word(a, b));
        due("word " + a + " " + c, x.word(a, c), y.word(a, c));
        due("bench " + w + " " + b, x.bench(w, b), y.bench(w, b));
        due("bench " + w + " " + c, x.bench(w, c), y.bench(w, c));
        due("grammar " + l + " " + c, x.grammar(l, c), y.grammar(l, c));
        due("row " + r + is, x.row(r, is), y.row(r, is));
        due("word " + y.row(r, false) + " 2", x.word(y.row(r, false), 2), y.word(y.row(r, false), 2));
        due("sense", x.sense(), y.sense());
        for (int what = -1; what < 7; what++) {
            due("means " + c + " " + what, x.means(c, what), y.means(c, what));
        }
        due("exact " + c, x.exact(c), y.exact(c));
        due("ruling " + c, x.ruling(c), y.ruling(c));
        due("instance " + a + " " + c, x.instance(a, c), y.instance(a, c));
        due("all " + c, x.all(c), y.all(c));
        due("one " + b, x.one(b), y.one(b));
        due("ill " + w, x.ill(w), y.ill(w));
        due("between " + r + " " + a, x.between(r, a), y.between(r, a));
        due("octet " + b, x.octet(b), y.octet(b));
        due("status " + a, x.status(a), y.status(a));
        due("place " + a, x.place(a), y.place(a));
        due("turned " + l, x.turned(l), y.turned(l));
        due("cases " + c, x.cases(c), y.cases(c));
        due("order " + c + " " + w, x.order(c, w), y.order(c, w));
        due("order " + c + " NONE", x.order(c, -1), y.order(c, -1));
        due("lots " + b, x.lots(b), y.lots(b));
        int seed = random.nextInt();
        if (pick(4) == 0) {
            due("seed " + seed, bit(x.seed(seed)), bit(y.seed(seed)));
        }
        if (small) {
            searched(w, c);
        }
    }

    private void searched(int a, int c) {
        int b = near(4);
        for (int n = -1; n < 5; n++) {
            for (int what = -1; what < 4; what++) {
                due("game " + n + " " + what, x.game(n, what), y.game(n, what));
            }
        }
        due("odds " + c, x.odds(c), y.odds(c));
        due("parts " + c + " " + a + " " + b, x.parts(c, a, b), y.parts(c, a, b));
        due("inn " + c + " " + a, x.inn(c, a), y.inn(c, a));
        for (int ruling = 1; ruling <= 2; ruling++) {
            for (int k : new int[] {-1, 0, 1, 2, 3, 4, 10, 11, 12, 13, 14}) {
                due("plan " + ruling + " -1 0 " + k, x.plan(ruling, -1, 0, k), y.plan(ruling, -1, 0, k));
            }
        }
        int side = near(1);
        int kind = near(2);
        for (int k : new int[] {-2, -1, 0, 1, 2, 3, 4, 5, 9, 10, 11, 12, 13, 14, 15}) {
            due("plan " + c + " " + side + " " + kind + " " + k, x.plan(c, side, kind, k), y.plan(c, side, kind, k));
        }
    }

    private void run(int mostWitnesses, int mostSaid, int rounds, boolean small) {
        for (int i = 0; i < rounds; i++) {
            if (i % 4 == 0) {
                tell(courtText(mostWitnesses, mostSaid));
            }
            for (int n = 1 + pick(6); n > 0; n--) {
                rowCall();
            }
            told(small);
            ask(question());
        }
    }

    private void spoil() {
        for (int i = 0; i < 12; i++) {
            String whole = courtText(3, 3);
            tell(pick(6) == 0 ? whole : spoiled(whole));
            ask(spoiled(question()));
            for (int what = 0; what < 9; what++) {
                due("court " + what, x.court(what), y.court(what));
            }
        }
    }

    public static void main(String[] args) {
        for (int seed = 0; seed < 400; seed++) {
            new OracleTest(seed).run(3, 3, 16, true);
        }
        for (int seed = 1000; seed < 1030; seed++) {
            new OracleTest(seed).run(5, 2, 8, true);
        }
        for (int seed = 2000; seed < 2200; seed++) {
            new OracleTest(seed).run(7, 4, 24, false);
        }
        for (int seed = 3000; seed < 3600; seed++) {
            new OracleTest(seed).spoil();
        }
        Check.over("OracleTest");
    }
}
