import java.util.ArrayList;
import java.util.LinkedHashMap;
import java.util.List;
import java.util.Map;
import java.util.function.Supplier;
import java.util.function.ToLongFunction;

/**
 * All that an object answers, for the question whether a call has changed anything. It is asked of several objects
 * made alike, so that none is used for more calls than the document speaks of.
 */
final class Readings {
    private static final int CALLS_OF_ONE = 250;
    private static final Map<String, ToLongFunction<WordEach>> PROBES = new LinkedHashMap<>();

    static {
        state();
        meaning();
        plans();
        chances();
    }

    private Readings() {
    }

    private static void state() {
        numbered("status", -1, 6, (x, i) -> x.status(i));
        numbered("fault", -1, 2, (x, i) -> x.fault(i));
        numbered("court", -1, 9, (x, i) -> x.court(i));
        for (int what : new int[] {0, 1, 2, 10, 11, 12, 13, 14, 15}) {
            numbered("word " + what, 0, 8, (x, i) -> x.word(i, what));
        }
        for (int what : new int[] {0, 1, 2, 3, 10, 11, 12, 13, 20, 21, 22, 23, 24, 25}) {
            numbered("bench " + what, 0, 3, (x, i) -> x.bench(i, what));
        }
        for (int line = 0; line < 2; line++) {
            int asked = line;
            numbered("grammar " + line, 0, 2, (x, i) -> x.grammar(asked, i));
        }
        numbered("row", 0, 6, (x, i) -> x.row(i, false));
        numbered("row by", 0, 6, (x, i) -> x.row(i, true));
        numbered("octet", 0, 16, (x, i) -> x.octet(i));
    }

    private static void meaning() {
        PROBES.put("sense", WordEach::sense);
        for (int k = 0; k < 2; k++) {
            int asked = k;
            numbered("means " + k, 0, 5, (x, i) -> x.means(asked, i));
        }
        numbered("exact", 0, 2, (x, i) -> x.exact(i));
        numbered("ruling", 0, 2, (x, i) -> x.ruling(i));
        for (int what = 0; what < 3; what++) {
            int asked = what;
            numbered("instance " + what, 0, 5, (x, i) -> x.instance(i, asked));
        }
    }

    private static void plans() {
        for (int ruling = 1; ruling <= 2; ruling++) {
            for (int side = -1; side <= 1; side++) {
                for (int k : new int[] {-1, 0, 1, 2, 3, 10, 11, 12, 13}) {
                    int by = side;
                    numbered("plan " + side + " " + k + " of", ruling, ruling, (x, i) -> x.plan(i, by, 0, k));
                }
            }
        }
        numbered("all", 0, 2, (x, i) -> x.all(i));
        numbered("one", 0, 39, (x, i) -> x.one(i));
        numbered("ill", 0, 3, (x, i) -> x.ill(i));
        for (int place = 0; place < 4; place++) {
            int asked = place;
            numbered("between " + place, 0, 8, (x, i) -> x.between(asked, i));
        }
        for (int what = 0; what < 3; what++) {
            int asked = what;
            numbered("game " + what, 0, 3, (x, i) -> x.game(i, asked));
        }
    }

    private static void chances() {
        numbered("place", 0, 7, (x, i) -> x.place(i));
        numbered("turned", 0, 1, (x, i) -> x.turned(i));
        for (int what = 0; what < 3; what++) {
            int asked = what;
            numbered("order " + what, -1, 3, (x, i) -> x.order(asked, i));
            for (int witness = 0; witness < 4; witness++) {
                int by = witness;
                numbered("parts " + what + " " + witness, 0, 3, (x, i) -> x.parts(asked, by, i));
            }
            numbered("inn " + what, 0, 3, (x, i) -> x.inn(asked, i));
        }
        numbered("cases", 0, 2, (x, i) -> x.cases(i));
        numbered("odds", 0, 2, (x, i) -> x.odds(i));
    }

    private interface Numbered {
        long ask(WordEach x, int i);
    }

    private static void numbered(String call, int from, int to, Numbered probe) {
        for (int i = from; i <= to; i++) {
            int asked = i;
            PROBES.put(call + " " + i, x -> probe.ask(x, asked));
        }
    }

    static Map<String, Long> of(Supplier<WordEach> maker) {
        Map<String, Long> answers = new LinkedHashMap<>();
        List<String> names = new ArrayList<>(PROBES.keySet());
        WordEach x = maker.get();
        for (int i = 0; i < names.size(); i++) {
            if (i % CALLS_OF_ONE == 0) {
                x = maker.get();
            }
            answers.put(names.get(i), PROBES.get(names.get(i)).applyAsLong(x));
        }
        // what can't be asked without changing something: the seed, the tape as a text, as a question, as an image
        answers.put("lots", (long) maker.get().lots(150));
        answers.put("image", (long) maker.get().image());
        answers.put("bytes fed", (long) maker.get().feed(0, 0, 0, 0, 0));
        answers.put("a question", maker.get().ask());
        answers.put("an image restored", maker.get().restore() ? 1L : 0L);
        WordEach told = maker.get();
        answers.put("a text", (long) told.text());
        for (int what = 0; what < 9; what++) {
            answers.put("a text's court " + what, (long) told.court(what));
        }
        answers.put("a text's fault", (long) told.fault(0));
        answers.put("a text's place", (long) told.fault(1));
        return answers;
    }

    static void alike(String call, Map<String, Long> got, Map<String, Long> due) {
        for (String name : due.keySet()) {
            Check.due(name + " behind " + call, got.get(name), due.get(name));
        }
    }

    /** A call that can't be: what it answers, where it counts (NONE: nowhere), and that all else stays. */
    static void refused(String call, Supplier<WordEach> maker, ToLongFunction<WordEach> heard, long answer, int status) {
        Map<String, Long> due = of(maker);
        due.computeIfPresent("status " + status, (name, before) -> before + (status < 0 ? 0 : 1));
        alike(call, of(() -> {
            WordEach x = maker.get();
            Check.due(call, heard.applyAsLong(x), answer);
            return x;
        }), due);
    }

    /** A call that is only an answer: what it is, and that nothing changes. */
    static void changesNothing(String call, Supplier<WordEach> maker, ToLongFunction<WordEach> heard, long answer) {
        refused(call, maker, heard, answer, WordEach.NONE);
    }

    /** The shared court, with something in each of its corners: ROW, LINES, seed, IMAGE, FAULT, tape. */
    static WordEach usedCourt() {
        WordEach x = Check.court(Check.COW);
        Check.due("faulty question", Check.ask(x, "first x"), WordEach.NOTHING);
        Check.due("not", x.say(2, 2), 1);
        Check.due("he", x.say(0, 0), 2);
        Check.due("image", x.image(), 7);
        Check.due("took", x.say(1, 0), 3);
        Check.due("line", x.line(0, false), true);
        Check.due("seed", x.seed(77), true);
        Check.put(x, "name zz;deed yy;line did who");
        return x;
    }
}
