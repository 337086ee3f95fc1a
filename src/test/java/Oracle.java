import java.util.ArrayList;
import java.util.Arrays;
import java.util.HashSet;
import java.util.List;
import java.util.Set;

/**
 * The document once more, as its words stand and without a thought for speed: lists of all ways, all orders,
 * all insertions. OracleTest compares it with WordEach.
 */
final class Oracle {
    static final int NONE = -1;
    static final List<String> OWN = Arrays.asList("name", "deed", "turn", "both", "either", "empty", "line", "who",
        "did", "whom", "fact", "witness", "age", "side", "says", "accused", "case");
    static final List<String> SLOTS = Arrays.asList("who", "did", "whom");

    static final class Fault extends RuntimeException {
        private static final long serialVersionUID = 1L;
        final int kind;
        final int place;

        Fault(int kind, int place) {
            super("fault " + kind + " at " + place, null, false, false);
            this.kind = kind;
            this.place = place;
        }
    }

    record Token(char type, String text, int place) {
    }

    record Witness(String name, int age, int side, List<Integer> words) {
    }

    record Clause(int who, int deed, int whom, int turns, int line, int binding) {
    }

    record Parsed(List<Clause> clauses, int senseless) {
    }

    static final class Court {
        final List<String> words = new ArrayList<>();
        final List<Integer> kinds = new ArrayList<>();
        final List<List<Integer>> lines = new ArrayList<>();
        final List<int[]> facts = new ArrayList<>();
        final List<Witness> bench = new ArrayList<>();
        final List<List<Integer>> cases = new ArrayList<>();
        int accused = NONE;
        int deed = NONE;
        int statements;
    }

    Court court = new Court();
    List<Integer> tape = new ArrayList<>();
    List<int[]> row = new ArrayList<>();
    Set<Integer> force = new HashSet<>();
    int[] refused = new int[6];
    int fault = 0;
    int faultAt = NONE;
    long seed = 1;
    List<Integer> image = new ArrayList<>();

    // ---- tokens

    static List<Token> tokens(List<Integer> tape) {
        List<Token> all = new ArrayList<>();
        char last = ' ';
        for (int i = 0; i < tape.size();) {
            char c = (char) (int) tape.get(i);
            if (c == 32 || c == 10) {
                last = ' ';
                i++;
                continue;
            }
            char type = type(c);
            StringBuilder text = new StringBuilder();
            int from = i;
            do {
                text.append((char) (int) tape.get(i));
                i++;
            } while (type != 's' && i < tape.size() && type((char) (int) tape.get(i)) == type);
            boolean stuck = type != 's' && (last == 'w' || last == 'n');
            all.add(new Token(stuck ? '?' : type, text.toString(), from));
            last = type;
        }
        all.add(new Token('e', "", tape.size()));
        return all;
    }

    static char type(char c) {
        return c >= 'a' && c <= 'z' ? 'w' : c >= '0' && c <= '9' ? 'n' : 's';
    }

    private List<Token> tokens;
    private int next;

    private Token peek() {
        return tokens.get(next);
    }

    private boolean isWord(String text) {
        return peek().type == 'w' && peek().text.equals(text);
    }

    private boolean isSign(String text) {
        return peek().type == 's' && peek().text.equals(text);
    }

    private Fault here(int kind) {
        return new Fault(kind, peek().place);
    }

    private void must(boolean is) {
        if (!is) {
            throw here(1);
        }
        next++;
    }

    private int number(int most) {
        Token t = peek();
        if (t.type != 'n') {
            throw here(1);
        }
        if (t.text.length() > 4) {
            throw new Fault(1, t.place + 4);
        }
        int value = Integer.parseInt(t.text);
        if (value > most) {
            throw here(2);
        }
        next++;
        return value;
    }

    // ---- the text

    private String wordAsked() {
        Token t = peek();
        if (t.type != 'w' || OWN.contains(t.text)) {
            throw here(1);
        }
        if (t.text.length() > 6) {
            throw new Fault(1, t.place + 6);
        }
        return t.text;
    }

    private String given(Court c) {
        String word = wordAsked();
        boolean there = c.words.contains(word);
        for (Witness w : c.bench) {
            there |= w.name.equals(word);
        }
        if (there) {
            throw here(3);
        }
        next++;
        return word;
    }

    private int known(Court c, int kind) {
        int word = c.words.indexOf(wordAsked());
        if (word < 0 || kind != NONE && c.kinds.get(word) != kind) {
            throw here(3);
        }
        next++;
        return word;
    }

    private void room(int count, int most) {
        if (count == most) {
            throw here(5);
        }
        next++;
    }

    private Court read() {
        Court c = new Court();
        tokens = tokens(tape);
        next = 0;
        while (peek().type != 'e') {
            if (c.statements == 70) {
                throw here(5);
            }
            statement(c);
            must(isSign(";"));
            c.statements++;
        }
        return c;
    }

    private void statement(Court c) {
        String what = peek().type == 'w' ? peek().text : "";
        switch (what) {
            case "name", "deed", "turn", "both", "either", "empty" -> {
                room(c.words.size(), 20);
                String word = given(c);
                c.words.add(word);
                c.kinds.add(OWN.indexOf(what));
            }
            case "line" -> {
                room(c.lines.size(), 6);
                List<Integer> slots = new ArrayList<>();
                do {
                    int slot = peek().type == 'w' ? SLOTS.indexOf(peek().text) : NONE;
                    if (slots.contains(slot)) {
                        throw here(1);
                    }
                    must(slot >= 0);
                    slots.add(slot);
                } while (!isSign(";"));
                if (!slots.contains(0) || !slots.contains(1)) {
                    throw here(1);
                }
                c.lines.add(slots);
            }
            case "fact" -> {
                room(c.facts.size(), 16);
                int who = known(c, 0);
                int deed = known(c, 1);
                c.facts.add(new int[] {who, deed, isSign(";") || peek().type == 'e' ? NONE : known(c, 0)});
            }
            case "witness" -> witness(c);
            case "accused" -> {
                next++;
                int who = known(c, 0);
                c.deed = known(c, 1);
                c.accused = who;
            }
            case "case" -> {
                room(c.cases.size(), 8);
                List<Integer> words = new ArrayList<>();
                do {
                    words.add(known(c, NONE));
                } while (words.size() < 8 && !isSign(";") && peek().type != 'e');
                c.cases.add(words);
            }
            default -> throw here(1);
        }
    }

    private void witness(Court c) {
        room(c.bench.size(), 7);
        String name = given(c);
        must(isWord("age"));
        int age = number(99);
        must(isWord("side"));
        int side = number(1);
        must(isWord("says"));
        List<Integer> words = new ArrayList<>();
        do {
            Token t = peek();
            int word = known(c, NONE);
            if (words.contains(word)) {
                throw new Fault(3, t.place);
            }
            words.add(word);
        } while (words.size() < 4 && !isSign(";") && peek().type != 'e');
        c.bench.add(new Witness(name, age, side, words));
    }

    int feed(int... n) {
        if (tape.size() + 20 > 1600) {
            refused[0]++;
            return NONE;
        }
        for (int number : n) {
            for (int i = 3; i >= 0; i--) {
                tape.add(number >> 8 * i & 255);
            }
        }
        return tape.size();
    }

    boolean end(int n) {
        if (n < 0 || n > tape.size()) {
            refused[0]++;
            return false;
        }
        tape = new ArrayList<>(tape.subList(0, n));
        return true;
    }

    int text() {
        fault = 0;
        faultAt = NONE;
        try {
            court = read();
        } catch (Fault f) {
            fault = f.kind;
            faultAt = f.place;
            refused[1]++;
            return NONE;
        } finally {
            tape.clear();
        }
        row.clear();
        force.clear();
        for (int i = 0; i < court.lines.size(); i++) {
            force.add(i);
        }
        return court.statements;
    }

    // ---- what there is

    int fault(int what) {
        return what == 0 ? fault : what == 1 ? faultAt : NONE;
    }

    private int forceBits() {
        int bits = 0;
        for (int line : force) {
            bits |= 1 << line;
        }
        return bits;
    }

    int court(int what) {
        int[] all = {court.words.size(), court.lines.size(), court.facts.size(), court.bench.size(),
            court.cases.size(), row.size(), forceBits(), court.accused, court.deed};
        return what >= 0 && what < all.length ? all[what] : NONE;
    }

    private static int letter(String word, int k) {
        return k < 0 || k > 5 ? NONE : k < word.length() ? word.charAt(k) - 96 : 0;
    }

    int word(int word, int what) {
        if (word < 0 || word >= court.words.size()) {
            return NONE;
        }
        if (what == 0) {
            return court.kinds.get(word);
        }
        if (what == 1) {
            return (int) court.bench.stream().filter(w -> w.words.contains(word)).count();
        }
        if (what == 2) {
            return (int) row.stream().filter(r -> r[1] == word).count();
        }
        return what < 10 ? NONE : letter(court.words.get(word), what - 10);
    }

    int bench(int witness, int what) {
        if (witness < 0 || witness >= court.bench.size()) {
            return NONE;
        }
        Witness w = court.bench.get(witness);
        if (what == 0) {
            return w.age;
        }
        if (what == 1) {
            return w.side;
        }
        if (what == 2) {
            return w.words.size();
        }
        if (what == 3) {
            return placeOf(witness);
        }
        if (what >= 10 && what < 20) {
            return what - 10 < w.words.size() ? w.words.get(what - 10) : NONE;
        }
        return what < 20 ? NONE : letter(w.name, what - 20);
    }

    int placeOf(int witness) {
        for (int i = 0; i < row.size(); i++) {
            if (row.get(i)[0] == witness) {
                return i;
            }
        }
        return NONE;
    }

    int grammar(int line, int k) {
        return line < 0 || line >= court.lines.size() || k < 0 || k >= court.lines.get(line).size()
            ? NONE : court.lines.get(line).get(k);
    }

    // ---- the row

    int row(int place, boolean witness) {
        return place < 0 || place >= row.size() ? NONE : row.get(place)[witness ? 0 : 1];
    }

    int say(int witness, int k) {
        if (witness < 0 || witness >= court.bench.size() || k < 0 || k >= court.bench.get(witness).words.size()
            || placeOf(witness) >= 0) {
            refused[2]++;
            return NONE;
        }
        row.add(new int[] {witness, court.bench.get(witness).words.get(k)});
        return row.size();
    }

    boolean back() {
        if (row.isEmpty()) {
            refused[2]++;
            return false;
        }
        row.remove(row.size() - 1);
        return true;
    }

    int clear() {
        int n = row.size();
        row.clear();
        return n;
    }

    boolean line(int line, boolean is) {
        if (line < 0 || line >= court.lines.size() || force.contains(line) == is) {
            refused[3]++;
            return false;
        }
        return is ? force.add(line) : force.remove(line);
    }

    // ---- what it means

    private List<Integer> said() {
        List<Integer> words = new ArrayList<>();
        for (int[] r : row) {
            words.add(r[1]);
        }
        return words;
    }

    private Parsed parse(List<Integer> words, Set<Integer> lines) {
        List<Integer> full = new ArrayList<>();
        List<Integer> places = new ArrayList<>();
        for (int i = 0; i < words.size(); i++) {
            if (court.kinds.get(words.get(i)) != 5) {
                full.add(words.get(i));
                places.add(i);
            }
        }
        places.add(words.size());
        List<Clause> clauses = new ArrayList<>();
        int at = 0;
        int binding = 0;
        while (true) {
            int turns = 0;
            while (at + turns < full.size() && court.kinds.get(full.get(at + turns)) == 2) {
                turns++;
            }
            Clause clause = null;
            int size = 0;
            for (int line = 0; line < court.lines.size() && clause == null; line++) {
                if (lines.contains(line) && fits(full, at + turns, court.lines.get(line))) {
                    int[] of = {NONE, NONE, NONE};
                    for (int k = 0; k < court.lines.get(line).size(); k++) {
                        of[court.lines.get(line).get(k)] = full.get(at + turns + k);
                    }
                    clause = new Clause(of[0], of[1], of[2], turns, line, binding);
                    size = court.lines.get(line).size();
                }
            }
            if (clause == null) {
                return new Parsed(null, places.get(at));
            }
            clauses.add(clause);
            at += turns + size;
            if (at == full.size()) {
                return new Parsed(clauses, NONE);
            }
            binding = court.kinds.get(full.get(at));
            at++;
        }
    }

    private boolean fits(List<Integer> full, int at, List<Integer> slots) {
        for (int k = 0; k < slots.size(); k++) {
            int asked = slots.get(k) == 1 ? 1 : 0;
            if (at + k >= full.size() || court.kinds.get(full.get(at + k)) != asked) {
                return false;
            }
        }
        int end = at + slots.size();
        return end == full.size() || court.kinds.get(full.get(end)) == 3 || court.kinds.get(full.get(end)) == 4;
    }

    /** Mode 0 by FACTS, 1 IF HE DID, 2 IF HE DID NOT. */
    private boolean isSo(List<Clause> clauses, int mode) {
        boolean so = false;
        for (Clause c : clauses) {
            boolean is = false;
            for (int[] f : court.facts) {
                is |= f[0] == c.who && f[1] == c.deed && (c.whom == NONE || f[2] == c.whom);
            }
            if (mode != 0 && c.who == court.accused && c.deed == court.deed) {
                is = mode == 1;
            }
            for (int i = 0; i < c.turns; i++) {
                is = !is;
            }
            so = c.binding == 0 ? is : c.binding == 3 ? so && is : so || is;
        }
        return so;
    }

    int ruling(List<Integer> words, Set<Integer> lines) {
        Parsed p = parse(words, lines);
        if (p.clauses == null || court.accused == NONE) {
            return 0;
        }
        boolean did = isSo(p.clauses, 1);
        boolean didNot = isSo(p.clauses, 2);
        return did && !didNot ? 1 : !did && didNot ? 2 : 0;
    }

    int ruling(List<Integer> words) {
        return ruling(words, force);
    }

    int truth() {
        if (court.accused == NONE) {
            return 0;
        }
        for (int[] f : court.facts) {
            if (f[0] == court.accused && f[1] == court.deed) {
                return 1;
            }
        }
        return 2;
    }

    int sense() {
        return parse(said(), force).senseless;
    }

    int means(int k, int what) {
        Parsed p = parse(said(), force);
        if (p.clauses == null || k < 0 || k >= p.clauses.size() || what < 0 || what > 5) {
            return NONE;
        }
        Clause c = p.clauses.get(k);
        return new int[] {c.who, c.deed, c.whom, c.turns, c.line, c.binding}[what];
    }

    int exact(int what) {
        Parsed p = parse(said(), force);
        return p.clauses == null || what < 0 || what > 2 ? NONE : isSo(p.clauses, what) ? 1 : 0;
    }

    int ruling(int what) {
        int r = ruling(said());
        return what == 0 ? r : what == 1 ? truth() : what == 2 ? (r == truth() ? 1 : 0) : NONE;
    }

    int instance(int number, int what) {
        if (number < 0 || number >= court.cases.size()) {
            return NONE;
        }
        List<Integer> words = court.cases.get(number);
        return what == 0 ? ruling(words) : what == 1 ? parse(words, force).senseless : what == 2 ? words.size() : NONE;
    }

    // ---- plans

    int plan(int ruling, int side, int kind, int k) {
        if (ruling < 1 || ruling > 2 || side < -1 || side > 1 || kind < 0 || kind > 2) {
            return NONE;
        }
        for (int size = 1; size <= 5; size++) {
            List<int[]> found = plan(new ArrayList<>(), size, ruling, side, kind);
            if (found != null) {
                if (k == NONE) {
                    return size;
                }
                if (k >= 0 && k < size) {
                    return found.get(k)[0];
                }
                return k >= 10 && k < 10 + size ? found.get(k - 10)[1] : NONE;
            }
        }
        return NONE;
    }

    private List<int[]> plan(List<int[]> begun, int size, int ruling, int side, int kind) {
        if (begun.size() == size) {
            return holds(begun, ruling, kind) ? begun : null;
        }
        for (int w = 0; w < court.bench.size(); w++) {
            boolean is = side == NONE || court.bench.get(w).side == side;
            for (int[] b : begun) {
                is &= b[0] != w;
            }
            for (int k = 0; is && k < court.bench.get(w).words.size(); k++) {
                List<int[]> longer = new ArrayList<>(begun);
                longer.add(new int[] {w, k});
                List<int[]> found = plan(longer, size, ruling, side, kind);
                if (found != null) {
                    return found;
                }
            }
        }
        return null;
    }

    private boolean holds(List<int[]> plan, int ruling, int kind) {
        List<Integer> words = new ArrayList<>();
        for (int[] p : plan) {
            words.add(court.bench.get(p[0]).words.get(p[1]));
        }
        if (ruling(words) != ruling) {
            return false;
        }
        if (kind == 1) {
            for (int i = 0; i < words.size(); i++) {
                if (ruling(without(words, i)) != ruling) {
                    return false;
                }
            }
            return words.size() >= 2;
        }
        for (int place = 0; kind == 2 && place <= words.size(); place++) {
            for (int word = 0; word < court.words.size(); word++) {
                if (ruling(with(words, place, word)) != ruling) {
                    return false;
                }
            }
        }
        return true;
    }

    static List<Integer> without(List<Integer> words, int place) {
        List<Integer> fewer = new ArrayList<>(words);
        if (place < fewer.size()) {
            fewer.remove(place);
        }
        return fewer;
    }

    static List<Integer> with(List<Integer> words, int place, int word) {
        List<Integer> more = new ArrayList<>(words);
        more.add(place, word);
        return more;
    }

    private List<Integer> undoing() {
        List<Integer> all = new ArrayList<>();
        for (int place = 0; place <= row.size(); place++) {
            for (int word = 0; word < court.words.size(); word++) {
                if (ruling(with(said(), place, word)) != ruling(said())) {
                    all.add(100 * place + word);
                }
            }
        }
        return all;
    }

    int all(int what) {
        Set<Integer> places = new HashSet<>();
        Set<Integer> words = new HashSet<>();
        for (int u : undoing()) {
            places.add(u / 100);
            words.add(u % 100);
        }
        return what == 0 ? undoing().size() : what == 1 ? places.size() : what == 2 ? words.size() : NONE;
    }

    int one(int k) {
        List<Integer> all = undoing();
        return k < 0 || k >= all.size() ? NONE : all.get(k);
    }

    int ill(int witness) {
        return placeOf(witness) < 0 ? NONE : ruling(without(said(), placeOf(witness)));
    }

    int between(int place, int word) {
        return place < 0 || place > row.size() || word < 0 || word >= court.words.size()
            ? NONE : ruling(with(said(), place, word));
    }

    int game(int n, int what) {
        if (n < 0 || n > 3 || what < 0 || what > 2) {
            return -2;
        }
        Set<Integer> gone = new HashSet<>();
        for (int[] r : row) {
            gone.add(r[0]);
        }
        return best(said(), gone, 0, n)[what];
    }

    private int[] best(List<Integer> words, Set<Integer> gone, int turn, int n) {
        if (turn == n) {
            return new int[] {ruling(words) == 1 ? 1 : 0, NONE, NONE};
        }
        List<int[]> options = new ArrayList<>();
        options.add(new int[] {best(words, gone, turn + 1, n)[0], NONE, NONE});
        for (int w = 0; w < court.bench.size(); w++) {
            if (gone.contains(w) || court.bench.get(w).side != turn % 2) {
                continue;
            }
            for (int k = 0; k < court.bench.get(w).words.size(); k++) {
                Set<Integer> more = new HashSet<>(gone);
                more.add(w);
                List<Integer> longer = with(words, words.size(), court.bench.get(w).words.get(k));
                options.add(new int[] {best(longer, more, turn + 1, n)[0], w, k});
            }
        }
        int[] best = options.get(0);
        for (int[] o : options) {
            if (turn % 2 == 0 ? o[0] > best[0] : o[0] < best[0]) {
                best = o;
            }
        }
        return best;
    }

    // ---- cases, orders

    int place(int place) {
        if (place < 0 || place > 7) {
            return NONE;
        }
        int n = 0;
        for (List<Integer> words : court.cases) {
            n += ruling(without(words, place)) != ruling(words) ? 1 : 0;
        }
        return n;
    }

    int turned(int line) {
        if (line < 0 || line >= court.lines.size()) {
            return NONE;
        }
        Set<Integer> fewer = new HashSet<>(force);
        fewer.remove(line);
        int n = 0;
        for (List<Integer> words : court.cases) {
            n += ruling(words, fewer) != ruling(words) ? 1 : 0;
        }
        return n;
    }

    int cases(int ruling) {
        int n = 0;
        for (List<Integer> words : court.cases) {
            n += ruling(words) == ruling ? 1 : 0;
        }
        return ruling < 0 || ruling > 2 ? NONE : n;
    }

    private int rulingOf(List<Integer> order) {
        List<Integer> words = new ArrayList<>();
        for (int w : order) {
            words.add(court.bench.get(w).words.get(0));
        }
        return ruling(words);
    }

    private List<Integer> seats() {
        List<Integer> seats = new ArrayList<>();
        for (int i = 0; i < court.bench.size(); i++) {
            seats.add(i);
        }
        return seats;
    }

    int order(int order, int place) {
        List<Integer> seats = seats();
        if (order < 0 || order > 2 || place < -1 || place >= seats.size()) {
            return NONE;
        }
        if (order == 1) {
            seats.sort((a, b) -> court.bench.get(b).age - court.bench.get(a).age);
        }
        if (order == 2) {
            seats.sort((a, b) -> court.bench.get(a).age - court.bench.get(b).age);
        }
        return place == NONE ? rulingOf(seats) : seats.get(place);
    }

    int lots(int n) {
        if (n < 1 || n > 200) {
            return NONE;
        }
        int right = 0;
        for (int i = 0; i < n; i++) {
            List<Integer> left = seats();
            List<Integer> order = new ArrayList<>();
            while (!left.isEmpty()) {
                seed = (1103515245L * seed + 12345) % (1L << 31);
                order.add(left.remove((int) (seed / 64 % left.size())));
            }
            right += rulingOf(order) == truth() ? 1 : 0;
        }
        return right;
    }

    boolean seed(int s) {
        if (s < 0) {
            refused[4]++;
            return false;
        }
        seed = s;
        return true;
    }

    // ---- by chance

    private List<List<Integer>> ways() {
        List<List<Integer>> ways = new ArrayList<>();
        ways.add(new ArrayList<>());
        for (Witness w : court.bench) {
            List<List<Integer>> longer = new ArrayList<>();
            for (List<Integer> way : ways) {
                for (int word : w.words) {
                    longer.add(with(way, way.size(), word));
                }
            }
            ways = longer;
        }
        return ways;
    }

    int odds(int ruling) {
        if (ruling < 0 || ruling > 2) {
            return NONE;
        }
        int n = 0;
        for (List<Integer> way : ways()) {
            n += ruling(way) == ruling ? 1 : 0;
        }
        return 1000 * n / ways().size();
    }

    int parts(int ruling, int witness, int k) {
        if (ruling < 0 || ruling > 2 || witness < 0 || witness >= court.bench.size() || k < 0
            || k >= court.bench.get(witness).words.size()) {
            return NONE;
        }
        int all = 0;
        int n = 0;
        for (List<Integer> way : ways()) {
            if (ruling(way) == ruling) {
                all++;
                n += way.get(witness).equals(court.bench.get(witness).words.get(k)) ? 1 : 0;
            }
        }
        return all == 0 ? 0 : 1000 * n / all;
    }

    int inn(int ruling, int witness) {
        if (ruling < 0 || ruling > 2 || witness < 0 || witness >= court.bench.size()) {
            return NONE;
        }
        int n = 0;
        for (List<Integer> way : ways()) {
            n += ruling(way) == ruling && ruling(without(way, witness)) != ruling ? 1 : 0;
        }
        return n;
    }

    // ---- questions

    interface Value {
        long of(int number);
    }

    private int open;

    private void opens() {
        if (open == 6) {
            throw here(4);
        }
        open++;
        next++;
    }

    private static long held(long x) {
        return x > 1000000 ? 1000000 : x < -1000000 ? -1000000 : x;
    }

    private Value test() {
        Value v = both();
        while (isWord("or")) {
            next++;
            Value a = v;
            Value b = both();
            v = n -> a.of(n) + b.of(n) > 0 ? 1 : 0;
        }
        return v;
    }

    private Value both() {
        Value v = fact();
        while (isWord("and")) {
            next++;
            Value a = v;
            Value b = fact();
            v = n -> a.of(n) * b.of(n);
        }
        return v;
    }

    private Value fact() {
        if (isWord("not")) {
            opens();
            Value a = fact();
            open--;
            return n -> 1 - a.of(n);
        }
        if (isSign("[")) {
            opens();
            Value a = test();
            must(isSign("]"));
            open--;
            return a;
        }
        if (isWord("all")) {
            next++;
            return n -> 1;
        }
        Value a = sum();
        String sign = peek().text;
        must(isSign("<") || isSign(">") || isSign("="));
        Value b = sum();
        return n -> (sign.equals("<") ? a.of(n) < b.of(n) : sign.equals(">") ? a.of(n) > b.of(n)
            : a.of(n) == b.of(n)) ? 1 : 0;
    }

    private Value sum() {
        Value v = product();
        while (isSign("+") || isSign("-")) {
            int by = isSign("+") ? 1 : -1;
            next++;
            Value a = v;
            Value b = product();
            v = n -> held(a.of(n) + by * b.of(n));
        }
        return v;
    }

    private Value product() {
        Value v = part();
        while (isSign("*") || isSign("/")) {
            boolean times = isSign("*");
            next++;
            Value a = v;
            Value b = part();
            v = n -> times ? held(a.of(n) * b.of(n)) : b.of(n) == 0 ? 0
                : (long) Math.floor((double) a.of(n) / (double) b.of(n));
        }
        return v;
    }

    private Value part() {
        if (peek().type == 'n') {
            int value = number(9999);
            return n -> value;
        }
        if (isSign("(")) {
            opens();
            Value a = sum();
            must(isSign(")"));
            open--;
            return a;
        }
        String word = peek().type == 'w' ? peek().text : "";
        switch (word) {
            case "at", "has" -> {
                opens();
                Value a = part();
                open--;
                return n -> word.equals("at") ? at(court.cases.get(n), a.of(n)) : has(court.cases.get(n), a.of(n));
            }
            case "min", "max" -> {
                next++;
                if (!isSign("(")) {
                    throw here(1);
                }
                opens();
                Value a = sum();
                must(isSign(","));
                Value b = sum();
                must(isSign(")"));
                open--;
                return n -> word.equals("min") ? Math.min(a.of(n), b.of(n)) : Math.max(a.of(n), b.of(n));
            }
            case "number" -> {
                next++;
                return n -> n;
            }
            case "words" -> {
                next++;
                return n -> court.cases.get(n).size();
            }
            case "ruling" -> {
                next++;
                return n -> ruling(court.cases.get(n));
            }
            case "fair" -> {
                next++;
                return n -> ruling(court.cases.get(n)) == truth() ? 1 : 0;
            }
            default -> throw here(1);
        }
    }

    private static long at(List<Integer> words, long place) {
        return place < 0 || place >= words.size() ? 99 : words.get((int) place);
    }

    private static long has(List<Integer> words, long word) {
        return words.stream().filter(w -> w == word).count();
    }

    long ask() {
        fault = 0;
        faultAt = NONE;
        try {
            return answer();
        } catch (Fault f) {
            fault = f.kind;
            faultAt = f.place;
            return -1000000000000000L;
        } finally {
            tape.clear();
        }
    }

    private long answer() {
        tokens = tokens(tape);
        next = 0;
        open = 0;
        String asked = peek().type == 'w' ? peek().text : "";
        must(Arrays.asList("first", "last", "often", "total", "most", "least").contains(asked));
        boolean isTest = Arrays.asList("first", "last", "often").contains(asked);
        Value v = isTest ? test() : sum();
        if (peek().type != 'e') {
            throw here(1);
        }
        List<Long> values = new ArrayList<>();
        for (int n = 0; n < court.cases.size(); n++) {
            values.add(v.of(n));
        }
        return switch (asked) {
            case "first" -> values.indexOf(1L);
            case "last" -> values.lastIndexOf(1L);
            case "often", "total" -> values.stream().mapToLong(x -> x).sum();
            case "most" -> values.stream().mapToLong(x -> x).max().orElse(0);
            default -> values.stream().mapToLong(x -> x).min().orElse(0);
        };
    }

    // ---- images

    private static int check(List<Integer> bytes) {
        int c = 97;
        for (int b : bytes) {
            c = (3 * c + b) % 241;
        }
        return c;
    }

    int image() {
        image = new ArrayList<>();
        image.add(row.size());
        for (int[] r : row) {
            image.add(r[0]);
            image.add(r[1]);
        }
        image.add(forceBits());
        image.add(check(image));
        return image.size();
    }

    int octet(int k) {
        return k < 0 || k >= image.size() ? NONE : image.get(k);
    }

    boolean restore() {
        List<Integer> bytes = new ArrayList<>(tape);
        tape.clear();
        List<int[]> told = rowOf(bytes);
        if (told == null) {
            refused[5]++;
            return false;
        }
        row = told;
        force.clear();
        for (int i = 0; i < 8; i++) {
            if ((bytes.get(bytes.size() - 2) >> i & 1) == 1) {
                force.add(i);
            }
        }
        return true;
    }

    private List<int[]> rowOf(List<Integer> bytes) {
        if (bytes.size() < 3 || bytes.size() != 3 + 2 * bytes.get(0)
            || check(bytes.subList(0, bytes.size() - 1)) != bytes.get(bytes.size() - 1)
            || bytes.get(bytes.size() - 2) >= 1 << court.lines.size()) {
            return null;
        }
        List<int[]> told = new ArrayList<>();
        Set<Integer> gone = new HashSet<>();
        for (int i = 1; i < bytes.size() - 2; i += 2) {
            int w = bytes.get(i);
            if (w >= court.bench.size() || !gone.add(w) || !court.bench.get(w).words.contains(bytes.get(i + 1))) {
                return null;
            }
            told.add(new int[] {w, bytes.get(i + 1)});
        }
        return told;
    }

    int status(int what) {
        return what < 0 || what > 5 ? NONE : refused[what];
    }
}
