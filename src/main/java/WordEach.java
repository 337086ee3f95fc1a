/**
 * One word from each witness: a court with a grammar nailed to its door.
 * What each call promises stands in the document, DOC.md, under its number.
 */
public final class WordEach {
    public static final int NONE = -1;
    public static final long NOTHING = -1000000000000000L;

    private static final int MOST_BYTES = 1600;
    private static final int BYTES_FED = 20;
    private static final int MOST_STATEMENTS = 70;
    private static final int MOST_WORDS = 20;
    private static final int MOST_LINES = 6;
    private static final int MOST_SLOTS = 3;
    private static final int MOST_FACTS = 16;
    private static final int MOST_WITNESSES = 7;
    private static final int MOST_SAID = 4;
    private static final int MOST_CASES = 8;
    private static final int MOST_CASE_WORDS = 8;
    private static final int MOST_LETTERS = 6;
    private static final int MOST_DIGITS = 4;
    private static final int MOST_AGE = 99;
    private static final int MOST_PLANNED = 4;
    private static final int MOST_TURNS = 3;
    private static final int MOST_LOTS = 200;
    private static final int MOST_OPEN = 6;
    private static final int MOST_HELD = 1000000;
    private static final int RULINGS = 3;

    private static final int SYNTAX_FAULT = 1;
    private static final int NUMBER_FAULT = 2;
    private static final int WORD_FAULT = 3;
    private static final int OPEN_FAULT = 4;
    private static final int COUNT_FAULT = 5;

    private static final int NAME = 0;
    private static final int DEED = 1;
    private static final int TURN = 2;
    private static final int BOTH = 3;
    private static final int EITHER = 4;
    private static final int EMPTY = 5;

    private static final int WHO = 0;
    private static final int DID = 1;
    private static final int WHOM = 2;

    /** The numbers of the OWN WORDS are their places in this list; KINDS come first, so a KIND is its own number. */
    private static final String OWN_WORDS =
        "name deed turn both either empty line who did whom fact witness age side says accused case";
    private static final int OWN_LINE = 6;
    private static final int OWN_WHO = 7;
    private static final int OWN_FACT = 10;
    private static final int OWN_WITNESS = 11;
    private static final int OWN_AGE = 12;
    private static final int OWN_SIDE = 13;
    private static final int OWN_SAYS = 14;
    private static final int OWN_ACCUSED = 15;
    private static final int OWN_CASE = 16;

    private static final int GUILTY = 1;

    private static final int REFUSED_TAPE = 0;
    private static final int REFUSED_TEXT = 1;
    private static final int REFUSED_ROW = 2;
    private static final int REFUSED_LINE = 3;
    private static final int REFUSED_SEED = 4;
    private static final int REFUSED_IMAGE = 5;

    private final Tape tape = new Tape();
    private final CourtReader reader = new CourtReader(tape);
    private final Judge judge = new Judge();
    private final Row spoken = new Row();
    private final Planner planner = new Planner(judge);
    private final Contest contest = new Contest(judge);
    private final Seats seats = new Seats(judge);
    private final Chance chance = new Chance(judge);
    private final Question question = new Question(tape, judge);
    private final int[] refused = new int[6];
    private final int[] rulings = new int[MOST_CASES];

    public WordEach() {
    }

    public int feed(int a, int b, int c, int d, int e) {
        if (tape.size + BYTES_FED > MOST_BYTES) {
            refused[REFUSED_TAPE]++;
            return NONE;
        }
        tape.put(a);
        tape.put(b);
        tape.put(c);
        tape.put(d);
        tape.put(e);
        return tape.size;
    }

    public boolean end(int n) {
        if (n < 0 || n > tape.size) {
            refused[REFUSED_TAPE]++;
            return false;
        }
        tape.size = n;
        return true;
    }

    public int text() {
        int statements = reader.readAll();
        tape.size = 0;
        if (statements == NONE) {
            refused[REFUSED_TEXT]++;
            return NONE;
        }
        Court left = judge.court;
        judge.court = reader.draft;
        reader.draft = left;
        spoken.size = 0;
        putInForce(judge.court.allLines());
        return statements;
    }

    public int fault(int what) {
        if (what == 0) {
            return tape.fault;
        }
        return what == 1 ? tape.faultAt : NONE;
    }

    public int court(int what) {
        Court court = judge.court;
        switch (what) {
            case 0:
                return court.words;
            case 1:
                return court.lines;
            case 2:
                return court.facts;
            case 3:
                return court.witnesses;
            case 4:
                return court.cases;
            case 5:
                return spoken.size;
            case 6:
                return judge.inForce;
            case 7:
                return court.accused;
            case 8:
                return court.accusedDeed;
            default:
                return NONE;
        }
    }

    public int word(int word, int what) {
        Court court = judge.court;
        if (word < 0 || word >= court.words) {
            return NONE;
        }
        switch (what) {
            case 0:
                return court.kinds[word];
            case 1:
                return court.speakersOf(word);
            case 2:
                return timesIn(spoken.words, spoken.size, word);
            default:
                return letterOf(court.spellings[word], what, 10);
        }
    }

    public int bench(int witness, int what) {
        Court court = judge.court;
        if (!court.hasWitness(witness)) {
            return NONE;
        }
        Witness asked = court.bench[witness];
        switch (what) {
            case 0:
                return asked.age;
            case 1:
                return asked.side;
            case 2:
                return asked.count;
            case 3:
                return spoken.placeOf(witness);
            default:
                return what >= 10 && what < 10 + asked.count
                    ? asked.words[what - 10]
                    : letterOf(asked.spelling, what, 20);
        }
    }

    public int grammar(int line, int k) {
        Court court = judge.court;
        if (!court.hasLine(line) || k < 0 || k >= court.slotCounts[line]) {
            return NONE;
        }
        return court.slots[line][k];
    }

    public int row(int place, boolean witness) {
        if (place < 0 || place >= spoken.size) {
            return NONE;
        }
        return witness ? spoken.speakers[place] : spoken.words[place];
    }

    public int say(int witness, int k) {
        Court court = judge.court;
        if (!court.hasSaying(witness, k) || spoken.placeOf(witness) != NONE) {
            refused[REFUSED_ROW]++;
            return NONE;
        }
        spoken.add(witness, court.bench[witness].words[k]);
        return spoken.size;
    }

    public boolean back() {
        if (spoken.size == 0) {
            refused[REFUSED_ROW]++;
            return false;
        }
        spoken.size--;
        return true;
    }

    public int clear() {
        int went = spoken.size;
        spoken.size = 0;
        return went;
    }

    public boolean line(int line, boolean is) {
        if (!judge.court.hasLine(line) || judge.isInForce(line) == is) {
            refused[REFUSED_LINE]++;
            return false;
        }
        putInForce(judge.inForce ^ 1 << line);
        return true;
    }

    public int sense() {
        return judge.senselessFrom(spoken.words, spoken.size);
    }

    public int means(int k, int what) {
        if (k < 0 || sense() != NONE) {
            return NONE;
        }
        return judge.clauseTold(spoken.words, spoken.size, k, what);
    }

    public int exact(int what) {
        int meaning = judge.meaning(stateSpoken());
        if (what < 0 || what > 2 || meaning == NONE) {
            return NONE;
        }
        return meaning >> what & 1;
    }

    public int ruling(int what) {
        int byRow = judge.rule(stateSpoken());
        int truth = judge.court.truth();
        switch (what) {
            case 0:
                return byRow;
            case 1:
                return truth;
            case 2:
                return byRow == truth ? 1 : 0;
            default:
                return NONE;
        }
    }

    public int instance(int number, int what) {
        Court court = judge.court;
        if (number < 0 || number >= court.cases) {
            return NONE;
        }
        switch (what) {
            case 0:
                return judge.ruleCase(number);
            case 1:
                return judge.senselessFrom(court.caseWords[number], court.caseSizes[number]);
            case 2:
                return court.caseSizes[number];
            default:
                return NONE;
        }
    }

    public int plan(int ruling, int side, int kind, int k) {
        if (ruling < 1 || ruling > 2 || side < NONE || side > 1 || kind < 0 || kind > 2) {
            return NONE;
        }
        // STANDING and FIRM plans can't be: each CLAUSE has one deed and no LINE has two, so it makes NO SENSE
        // with the one away who said its deed, nor with that deed put once more ahead of the ROW.
        if (kind != 0) {
            return NONE;
        }
        return planner.tell(ruling, side, k);
    }

    public int all(int what) {
        if (what < 0 || what > 2) {
            return NONE;
        }
        int pairs = 0;
        int places = 0;
        int wordsSeen = 0;
        int now = judge.rule(stateSpoken());
        for (int place = 0; place <= spoken.size; place++) {
            int before = pairs;
            for (int word = 0; word < judge.court.words; word++) {
                if (rulingWith(place, word) != now) {
                    pairs++;
                    wordsSeen |= 1 << word;
                }
            }
            places += pairs > before ? 1 : 0;
        }
        if (what == 0) {
            return pairs;
        }
        return what == 1 ? places : Integer.bitCount(wordsSeen);
    }

    public int one(int k) {
        int now = judge.rule(stateSpoken());
        int seen = 0;
        for (int place = 0; place <= spoken.size; place++) {
            for (int word = 0; word < judge.court.words; word++) {
                if (rulingWith(place, word) != now) {
                    if (seen == k) {
                        return 100 * place + word;
                    }
                    seen++;
                }
            }
        }
        return NONE;
    }

    public int ill(int witness) {
        int place = spoken.placeOf(witness);
        return place == NONE ? NONE : judge.rule(judge.hearRow(spoken.words, spoken.size, place));
    }

    public int between(int place, int word) {
        if (place < 0 || place > spoken.size || word < 0 || word >= judge.court.words) {
            return NONE;
        }
        return rulingWith(place, word);
    }

    public int game(int n, int what) {
        if (n < 0 || n > MOST_TURNS || what < 0 || what > 2) {
            return -2;
        }
        int outcome = contest.play(n, stateSpoken(), spoken.speakerBits());
        if (what == 0) {
            return outcome;
        }
        return what == 1 ? contest.firstWitness : contest.firstWord;
    }

    public int place(int place) {
        if (place < 0 || place >= MOST_CASE_WORDS) {
            return NONE;
        }
        Court court = judge.court;
        int decided = 0;
        for (int number = 0; number < court.cases; number++) {
            int without = judge.hearRow(court.caseWords[number], court.caseSizes[number], place);
            decided += judge.rule(without) != judge.ruleCase(number) ? 1 : 0;
        }
        return decided;
    }

    public int turned(int line) {
        if (!judge.court.hasLine(line)) {
            return NONE;
        }
        if (!judge.isInForce(line)) {
            return 0;
        }
        int inForce = judge.inForce;
        ruleCases();
        judge.obey(inForce ^ 1 << line);
        int turns = 0;
        for (int number = 0; number < judge.court.cases; number++) {
            turns += judge.ruleCase(number) != rulings[number] ? 1 : 0;
        }
        judge.obey(inForce);
        return turns;
    }

    public int cases(int ruling) {
        if (!isRuling(ruling)) {
            return NONE;
        }
        ruleCases();
        return timesIn(rulings, judge.court.cases, ruling);
    }

    public int order(int order, int place) {
        if (order < 0 || order > 2 || place < NONE || place >= judge.court.witnesses) {
            return NONE;
        }
        seats.arrange(order);
        return place == NONE ? seats.ruleInOrder() : seats.ordered[place];
    }

    public int lots(int n) {
        if (n < 1 || n > MOST_LOTS) {
            return NONE;
        }
        int truth = judge.court.truth();
        int right = 0;
        for (int lot = 0; lot < n; lot++) {
            seats.drawLot();
            right += seats.ruleInOrder() == truth ? 1 : 0;
        }
        return right;
    }

    public boolean seed(int seed) {
        if (seed < 0) {
            refused[REFUSED_SEED]++;
            return false;
        }
        seats.seed = seed;
        return true;
    }

    public int odds(int ruling) {
        if (!isRuling(ruling)) {
            return NONE;
        }
        return thousandths(chance.waysTo(ruling), chance.allWays());
    }

    public int parts(int ruling, int witness, int k) {
        if (!isRuling(ruling) || !judge.court.hasSaying(witness, k)) {
            return NONE;
        }
        return thousandths(chance.waysSaying(ruling, witness, k), chance.waysTo(ruling));
    }

    public int inn(int ruling, int witness) {
        if (!isRuling(ruling) || !judge.court.hasWitness(witness)) {
            return NONE;
        }
        return chance.waysHanging(ruling, witness);
    }

    public long ask() {
        ruleCases();
        long answer = question.answer(rulings);
        tape.size = 0;
        return answer;
    }

    public int image() {
        spoken.write(judge.inForce);
        return spoken.octetCount;
    }

    public int octet(int k) {
        return k < 0 || k >= spoken.octetCount ? NONE : spoken.octets[k];
    }

    public boolean restore() {
        boolean is = Row.isImage(tape, judge.court);
        if (is) {
            spoken.readFrom(tape);
            putInForce(tape.byteAt(tape.size - 2));
        } else {
            refused[REFUSED_IMAGE]++;
        }
        tape.size = 0;
        return is;
    }

    public int status(int what) {
        return what < 0 || what >= refused.length ? NONE : refused[what];
    }

    private void putInForce(int lines) {
        judge.obey(lines);
        planner.forget();
        chance.forget();
    }

    private int stateSpoken() {
        return judge.hearRow(spoken.words, spoken.size, NONE);
    }

    private int rulingWith(int place, int word) {
        int state = Judge.START;
        for (int i = 0; i <= spoken.size; i++) {
            if (i == place) {
                state = judge.hear(state, word);
            }
            if (i < spoken.size) {
                state = judge.hear(state, spoken.words[i]);
            }
        }
        return judge.rule(state);
    }

    private void ruleCases() {
        for (int number = 0; number < judge.court.cases; number++) {
            rulings[number] = judge.ruleCase(number);
        }
    }

    private static boolean isRuling(int ruling) {
        return ruling >= 0 && ruling < RULINGS;
    }

    private static int thousandths(int part, int whole) {
        return whole == 0 ? 0 : 1000 * part / whole;
    }

    /** Letter (what - base) of a spelling; NONE when it has no such place. */
    private static int letterOf(int spelling, int what, int base) {
        if (what < base || what >= base + MOST_LETTERS) {
            return NONE;
        }
        return spelling >> 5 * (MOST_LETTERS - 1 - (what - base)) & 31;
    }

    private static int timesIn(int[] list, int size, int sought) {
        int times = 0;
        for (int i = 0; i < size && i < list.length; i++) {
            times += list[i] == sought ? 1 : 0;
        }
        return times;
    }

    /**
     * The bytes that were fed, read on token by token. Once a FAULT is found, what is still asked of the tape
     * fails without a word: so readers go on straight and look at the FAULT once.
     */
    private static final class Tape {
        static final int WORD = 'a';
        static final int NUMBER = '0';
        static final int STUCK = 0;

        final byte[] bytes = new byte[MOST_BYTES];
        int size;
        int at;
        int length;
        /** Of the token at hand: WORD, NUMBER, any other byte as it is; NONE at the end. */
        int sign;
        int fault;
        int faultAt = NONE;

        void put(int number) {
            for (int shift = 24; shift >= 0 && size < MOST_BYTES; shift -= 8) {
                bytes[size] = (byte) (number >>> shift);
                size++;
            }
        }

        /** Byte k, 0 .. 255; NONE when there is none such. */
        int byteAt(int k) {
            return k < 0 || k >= size ? NONE : bytes[k] & 255;
        }

        void rewind() {
            at = 0;
            length = 0;
            sign = NONE;
            fault = 0;
            faultAt = NONE;
            advance();
        }

        void fail(int kind, int place) {
            if (fault == 0) {
                fault = kind;
                faultAt = place;
            }
        }

        /** Goes on to the next token. */
        void advance() {
            boolean wasRun = sign == WORD || sign == NUMBER;
            int end = at + length;
            at = end;
            while (at < size && (bytes[at] == ' ' || bytes[at] == '\n')) {
                at++;
            }
            sign = signAt(at);
            length = at < size ? 1 : 0;
            if (sign != WORD && sign != NUMBER) {
                return;
            }
            while (at + length < size && signAt(at + length) == sign) {
                length++;
            }
            // words and numbers side by side need a blank: without one no reader takes the second
            if (wasRun && at == end) {
                sign = STUCK;
            }
        }

        private int signAt(int k) {
            if (k >= size) {
                return NONE;
            }
            int octet = bytes[k] & 255;
            if (octet >= 'a' && octet <= 'z') {
                return WORD;
            }
            return octet >= '0' && octet <= '9' ? NUMBER : octet;
        }

        boolean take(int asked) {
            if (fault == 0 && sign == asked) {
                advance();
                return true;
            }
            fail(SYNTAX_FAULT, at);
            return false;
        }

        /** Which word of a list, parted by blanks, the token is; NONE when it is none of them. */
        int listed(String list) {
            if (sign != WORD) {
                return NONE;
            }
            int number = 0;
            int alike = 0;
            for (int i = 0; i < list.length(); i++) {
                if (list.charAt(i) != ' ') {
                    boolean goesOn = alike != NONE && alike < length && bytes[at + alike] == list.charAt(i);
                    alike = goesOn ? alike + 1 : NONE;
                } else if (alike == length) {
                    return number;
                } else {
                    number++;
                    alike = 0;
                }
            }
            return alike == length ? number : NONE;
        }

        /** The WORD at hand, which stays, five bits a letter, so that spellings compare as numbers; 0 with a FAULT. */
        int spelled() {
            if (fault != 0) {
                return 0;
            }
            if (sign != WORD || listed(OWN_WORDS) != NONE) {
                fail(SYNTAX_FAULT, at);
                return 0;
            }
            if (length > MOST_LETTERS) {
                fail(SYNTAX_FAULT, at + MOST_LETTERS);
                return 0;
            }
            int spelling = 0;
            for (int i = 0; i < MOST_LETTERS; i++) {
                spelling = spelling << 5 | (i < length ? bytes[at + i] - 'a' + 1 : 0);
            }
            return spelling;
        }

        /** Takes a number; NONE with a FAULT. */
        int takeNumber(int most) {
            if (fault != 0) {
                return NONE;
            }
            if (sign != NUMBER) {
                fail(SYNTAX_FAULT, at);
                return NONE;
            }
            if (length > MOST_DIGITS) {
                fail(SYNTAX_FAULT, at + MOST_DIGITS);
                return NONE;
            }
            int value = 0;
            for (int i = 0; i < length; i++) {
                value = 10 * value + bytes[at + i] - '0';
            }
            if (value > most) {
                fail(NUMBER_FAULT, at);
                return NONE;
            }
            advance();
            return value;
        }
    }

    private static final class Witness {
        final int[] words = new int[MOST_SAID];
        int count;
        int spelling;
        int age;
        int side;

        boolean maySay(int word) {
            return timesIn(words, count, word) > 0;
        }
    }

    /** What a text has told. */
    private static final class Court {
        final int[] spellings = new int[MOST_WORDS];
        final int[] kinds = new int[MOST_WORDS];
        final int[][] slots = new int[MOST_LINES][MOST_SLOTS];
        final int[] slotCounts = new int[MOST_LINES];
        final int[][] slotPlaces = new int[MOST_LINES][MOST_SLOTS];
        final int[][] factWords = new int[MOST_FACTS][MOST_SLOTS];
        final Witness[] bench = new Witness[MOST_WITNESSES];
        final int[][] caseWords = new int[MOST_CASES][MOST_CASE_WORDS];
        final int[] caseSizes = new int[MOST_CASES];
        int words;
        int lines;
        int facts;
        int witnesses;
        int cases;
        int accused = NONE;
        int accusedDeed = NONE;

        Court() {
            for (int i = 0; i < MOST_WITNESSES; i++) {
                bench[i] = new Witness();
            }
        }

        void adjourn() {
            words = 0;
            lines = 0;
            facts = 0;
            witnesses = 0;
            cases = 0;
            accused = NONE;
            accusedDeed = NONE;
        }

        boolean hasLine(int line) {
            return line >= 0 && line < lines;
        }

        boolean hasWitness(int witness) {
            return witness >= 0 && witness < witnesses;
        }

        boolean hasSaying(int witness, int k) {
            return hasWitness(witness) && k >= 0 && k < bench[witness].count;
        }

        int allLines() {
            return (1 << lines) - 1;
        }

        int wordSpelled(int spelling) {
            for (int word = 0; word < words; word++) {
                if (spellings[word] == spelling) {
                    return word;
                }
            }
            return NONE;
        }

        boolean isGiven(int spelling) {
            for (int witness = 0; witness < witnesses; witness++) {
                if (bench[witness].spelling == spelling) {
                    return true;
                }
            }
            return wordSpelled(spelling) != NONE;
        }

        int speakersOf(int word) {
            int speakers = 0;
            for (int witness = 0; witness < witnesses; witness++) {
                speakers += bench[witness].maySay(word) ? 1 : 0;
            }
            return speakers;
        }

        /** Whether a FACT has who and deed and, unless it is NONE, whom. */
        boolean isFact(int who, int deed, int whom) {
            for (int fact = 0; fact < facts; fact++) {
                int[] told = factWords[fact];
                if (told[WHO] == who && told[DID] == deed && (whom == NONE || told[WHOM] == whom)) {
                    return true;
                }
            }
            return false;
        }

        int truth() {
            if (accused == NONE) {
                return 0;
            }
            return isFact(accused, accusedDeed, NONE) ? 1 : 2;
        }

        /** A new LINE: its SLOTS stand already. */
        void addLine(int count) {
            if (lines >= MOST_LINES || count > MOST_SLOTS) {
                return;
            }
            slotCounts[lines] = count;
            for (int slot = WHO; slot <= WHOM; slot++) {
                slotPlaces[lines][slot] = NONE;
            }
            for (int k = 0; k < count; k++) {
                slotPlaces[lines][slots[lines][k]] = k;
            }
            lines++;
        }

        /** The KINDS that a LINE asks, as Judge writes patterns. */
        int patternOf(int line) {
            int pattern = 1;
            for (int k = 0; k < slotCounts[line]; k++) {
                pattern = 2 * pattern + (slots[line][k] == DID ? DEED : NAME);
            }
            return pattern;
        }
    }

    /** Reads a text into a draft, so that with a FAULT the COURT at hand stays. */
    private static final class CourtReader {
        final Tape tape;
        Court draft = new Court();

        CourtReader(Tape tape) {
            this.tape = tape;
        }

        /** How many STATEMENTS the tape has; NONE with a FAULT. */
        int readAll() {
            tape.rewind();
            draft.adjourn();
            for (int statements = 0; statements < MOST_STATEMENTS; statements++) {
                if (tape.sign == NONE) {
                    return statements;
                }
                readStatement();
                tape.take(';');
                if (tape.fault != 0) {
                    return NONE;
                }
            }
            if (tape.sign == NONE) {
                return MOST_STATEMENTS;
            }
            tape.fail(COUNT_FAULT, tape.at);
            return NONE;
        }

        private void readStatement() {
            int own = tape.listed(OWN_WORDS);
            if (own >= NAME && own <= EMPTY) {
                readWord(own);
            } else if (own == OWN_LINE) {
                readLine();
            } else if (own == OWN_FACT) {
                readFact();
            } else if (own == OWN_WITNESS) {
                readWitness();
            } else if (own == OWN_ACCUSED) {
                readAccused();
            } else if (own == OWN_CASE) {
                readCase();
            } else {
                tape.fail(SYNTAX_FAULT, tape.at);
            }
        }

        /** Passes the STATEMENT's first word, if there is room for one more of its kind. */
        private boolean begins(int count, int most) {
            if (count >= most) {
                tape.fail(COUNT_FAULT, tape.at);
                return false;
            }
            tape.advance();
            return true;
        }

        private void readWord(int kind) {
            if (!begins(draft.words, MOST_WORDS)) {
                return;
            }
            int spelling = takeNewSpelling();
            if (tape.fault == 0) {
                draft.spellings[draft.words] = spelling;
                draft.kinds[draft.words] = kind;
                draft.words++;
            }
        }

        private void readLine() {
            if (!begins(draft.lines, MOST_LINES)) {
                return;
            }
            int told = 0;
            int count = 0;
            for (int k = 0; k < MOST_SLOTS && (k == 0 || tape.sign != ';'); k++) {
                int slot = tape.listed(OWN_WORDS) - OWN_WHO;
                if (slot < WHO || slot > WHOM || (told >> slot & 1) == 1) {
                    tape.fail(SYNTAX_FAULT, tape.at);
                    return;
                }
                draft.slots[draft.lines][k] = slot;
                told |= 1 << slot;
                count++;
                tape.advance();
            }
            if ((told >> WHO & 1) == 0 || (told >> DID & 1) == 0) {
                tape.fail(SYNTAX_FAULT, tape.at);
                return;
            }
            draft.addLine(count);
        }

        private void readFact() {
            if (!begins(draft.facts, MOST_FACTS)) {
                return;
            }
            int who = takeWord(NAME);
            int deed = takeWord(DEED);
            int whom = tape.sign == Tape.WORD ? takeWord(NAME) : NONE;
            if (tape.fault == 0) {
                int[] told = draft.factWords[draft.facts];
                told[WHO] = who;
                told[DID] = deed;
                told[WHOM] = whom;
                draft.facts++;
            }
        }

        private void readWitness() {
            if (!begins(draft.witnesses, MOST_WITNESSES)) {
                return;
            }
            Witness witness = draft.bench[draft.witnesses];
            witness.spelling = takeNewSpelling();
            takeOwn(OWN_AGE);
            witness.age = tape.takeNumber(MOST_AGE);
            takeOwn(OWN_SIDE);
            witness.side = tape.takeNumber(1);
            takeOwn(OWN_SAYS);
            witness.count = 0;
            for (int k = 0; k < MOST_SAID && (k == 0 || tape.sign == Tape.WORD); k++) {
                int from = tape.at;
                int word = takeWord(NONE);
                if (witness.maySay(word)) {
                    tape.fail(WORD_FAULT, from);
                }
                witness.words[k] = word;
                witness.count = k + 1;
            }
            if (tape.fault == 0) {
                draft.witnesses++;
            }
        }

        private void readAccused() {
            tape.advance();
            int who = takeWord(NAME);
            int deed = takeWord(DEED);
            if (tape.fault == 0) {
                draft.accused = who;
                draft.accusedDeed = deed;
            }
        }

        private void readCase() {
            if (!begins(draft.cases, MOST_CASES)) {
                return;
            }
            int count = 0;
            for (int k = 0; k < MOST_CASE_WORDS && (k == 0 || tape.sign == Tape.WORD); k++) {
                draft.caseWords[draft.cases][k] = takeWord(NONE);
                count++;
            }
            if (tape.fault == 0) {
                draft.caseSizes[draft.cases] = count;
                draft.cases++;
            }
        }

        private void takeOwn(int own) {
            if (tape.fault != 0) {
                return;
            }
            if (tape.listed(OWN_WORDS) == own) {
                tape.advance();
            } else {
                tape.fail(SYNTAX_FAULT, tape.at);
            }
        }

        private int takeNewSpelling() {
            int spelling = tape.spelled();
            if (tape.fault == 0 && draft.isGiven(spelling)) {
                tape.fail(WORD_FAULT, tape.at);
            }
            if (tape.fault == 0) {
                tape.advance();
            }
            return spelling;
        }

        /** The number of a WORD that was told ahead, of a KIND (NONE: of any); NONE with a FAULT. */
        private int takeWord(int kind) {
            int spelling = tape.spelled();
            if (tape.fault != 0) {
                return NONE;
            }
            int word = draft.wordSpelled(spelling);
            if (word == NONE || kind != NONE && draft.kinds[word] != kind) {
                tape.fail(WORD_FAULT, tape.at);
                return NONE;
            }
            tape.advance();
            return word;
        }
    }

    /**
     * Hears a ROW word by word. All that is heard so far is one number, a state, so that searches may go on from
     * it in many ways and make no objects: the WORDS of the CLAUSE at hand (three times five bits), its pattern,
     * whether it is turned, whether the SENTENCE ahead of it is so (three bits) and what binds it to that.
     * A pattern is a 1 and, for each WORD, its KIND (NAME 0, DEED 1) as a further bit.
     */
    private static final class Judge {
        static final int PATTERNS = 16;
        static final int PATTERN = 15;
        static final int TURNED = 1 << 19;
        static final int SENTENCE = 20;
        static final int BINDING = 23;
        static final int START = 1 << PATTERN;
        static final int SENSELESS = NONE;
        static final int BY_FACTS = 1;
        static final int IF_HE_DID = 2;
        static final int ALWAYS = 7;

        final int[] fitting = new int[PATTERNS];
        final boolean[] begun = new boolean[PATTERNS];
        Court court = new Court();
        int inForce;

        Judge() {
            forgetLines();
        }

        private void forgetLines() {
            for (int pattern = 0; pattern < PATTERNS; pattern++) {
                fitting[pattern] = NONE;
                begun[pattern] = false;
            }
        }

        boolean isInForce(int line) {
            return (inForce >> line & 1) == 1;
        }

        /** From now on by these LINES (bits). */
        void obey(int lines) {
            inForce = lines;
            forgetLines();
            // from the last on, so that the first LINE of a pattern is the one that stays
            for (int line = court.lines - 1; line >= 0; line--) {
                if (isInForce(line)) {
                    int pattern = court.patternOf(line);
                    fitting[pattern] = line;
                    for (int part = pattern; part > 0; part >>= 1) {
                        begun[part] = true;
                    }
                }
            }
        }

        int hear(int state, int word) {
            if (state == SENSELESS) {
                return SENSELESS;
            }
            int kind = court.kinds[word];
            if (kind == EMPTY) {
                return state;
            }
            if (kind == TURN) {
                return patternIn(state) == 1 ? state ^ TURNED : SENSELESS;
            }
            if (kind == NAME || kind == DEED) {
                return hearSlot(state, word, kind);
            }
            int meaning = meaning(state);
            return meaning == NONE ? SENSELESS : START | meaning << SENTENCE | kind << BINDING;
        }

        private int hearSlot(int state, int word, int kind) {
            int pattern = state >> PATTERN & PATTERNS - 1;
            int longer = 2 * pattern + kind;
            if (longer >= PATTERNS || !begun[longer]) {
                return SENSELESS;
            }
            int place = pattern < 2 ? 0 : pattern < 4 ? 1 : 2;
            return state + (longer - pattern << PATTERN) + (word << 5 * place);
        }

        private static int patternIn(int state) {
            return state >> PATTERN & PATTERNS - 1;
        }

        /** The LINE that fits the CLAUSE at hand, were it at its end; NONE when none does. */
        int lineOf(int state) {
            return fitting[patternIn(state)];
        }

        /** How many WORDS more there must be at least, if the ROW is to make sense. */
        int wordsMissing(int state) {
            if (lineOf(state) != NONE) {
                return 0;
            }
            return patternIn(state) == 1 ? 2 : 1;
        }

        private int wordIn(int state, int line, int slot) {
            int place = line == NONE ? NONE : court.slotPlaces[line][slot];
            return place == NONE ? NONE : state >> 5 * place & 31;
        }

        /** Bit 0: so by FACTS, bit 1: so IF HE DID, bit 2: so IF HE DID NOT; NONE when it makes NO SENSE. */
        int meaning(int state) {
            int line = state == SENSELESS ? NONE : lineOf(state);
            if (line == NONE) {
                return NONE;
            }
            int who = wordIn(state, line, WHO);
            int deed = wordIn(state, line, DID);
            int clause = court.isFact(who, deed, wordIn(state, line, WHOM)) ? ALWAYS : 0;
            if (who == court.accused && deed == court.accusedDeed) {
                clause = clause & BY_FACTS | IF_HE_DID;
            }
            if ((state & TURNED) != 0) {
                clause ^= ALWAYS;
            }
            int ahead = state >> SENTENCE & ALWAYS;
            int binding = state >> BINDING & 7;
            if (binding == BOTH) {
                return ahead & clause;
            }
            return binding == EITHER ? ahead | clause : clause;
        }

        int rule(int state) {
            int meaning = meaning(state);
            if (meaning == NONE) {
                return 0;
            }
            int did = meaning >> 1 & 1;
            int didNot = meaning >> 2 & 1;
            if (did == didNot) {
                return 0;
            }
            return did == 1 ? 1 : 2;
        }

        /** Hears a whole ROW, but for one place (NONE: but for none). */
        int hearRow(int[] row, int size, int skipped) {
            int state = START;
            for (int i = 0; i < size; i++) {
                if (i != skipped) {
                    state = hear(state, row[i]);
                }
            }
            return state;
        }

        int ruleCase(int number) {
            return rule(hearRow(court.caseWords[number], court.caseSizes[number], NONE));
        }

        private boolean binds(int word) {
            return court.kinds[word] == BOTH || court.kinds[word] == EITHER;
        }

        /** From which place on a ROW makes NO SENSE; NONE when it makes sense. */
        int senselessFrom(int[] row, int size) {
            int state = START;
            int clause = NONE;
            for (int i = 0; i < size; i++) {
                if (clause == NONE && court.kinds[row[i]] != EMPTY) {
                    clause = i;
                }
                state = hear(state, row[i]);
                if (state == SENSELESS) {
                    return clause;
                }
                if (binds(row[i])) {
                    clause = NONE;
                }
            }
            if (meaning(state) != NONE) {
                return NONE;
            }
            return clause == NONE ? size : clause;
        }

        /** What is to be told of the k-th CLAUSE of a ROW that makes sense; NONE when there is none such. */
        int clauseTold(int[] row, int size, int k, int what) {
            int state = START;
            int clause = 0;
            int turns = 0;
            for (int i = 0; i < size; i++) {
                if (binds(row[i])) {
                    if (clause == k) {
                        return toldOf(state, turns, what);
                    }
                    clause++;
                    turns = 0;
                }
                turns += court.kinds[row[i]] == TURN ? 1 : 0;
                state = hear(state, row[i]);
            }
            return clause == k ? toldOf(state, turns, what) : NONE;
        }

        private int toldOf(int state, int turns, int what) {
            switch (what) {
                case 0:
                case 1:
                case 2:
                    return wordIn(state, lineOf(state), what);
                case 3:
                    return turns;
                case 4:
                    return lineOf(state);
                case 5:
                    return state >> BINDING & 7;
                default:
                    return NONE;
            }
        }
    }

    /** THE ROW at hand, and the latest IMAGE of it. */
    private static final class Row {
        static final int FIRST_CHECK = 97;
        static final int CHECKS = 241;

        final int[] words = new int[MOST_WITNESSES];
        final int[] speakers = new int[MOST_WITNESSES];
        final int[] octets = new int[2 * MOST_WITNESSES + 3];
        int size;
        int octetCount;

        void add(int witness, int word) {
            if (size < MOST_WITNESSES) {
                speakers[size] = witness;
                words[size] = word;
                size++;
            }
        }

        int placeOf(int witness) {
            for (int i = 0; i < size; i++) {
                if (speakers[i] == witness) {
                    return i;
                }
            }
            return NONE;
        }

        int speakerBits() {
            int bits = 0;
            for (int i = 0; i < size; i++) {
                bits |= 1 << speakers[i];
            }
            return bits;
        }

        void write(int lines) {
            octetCount = 0;
            addOctet(size);
            for (int i = 0; i < size; i++) {
                addOctet(speakers[i]);
                addOctet(words[i]);
            }
            addOctet(lines);
            int check = FIRST_CHECK;
            for (int i = 0; i < octetCount; i++) {
                check = (3 * check + octets[i]) % CHECKS;
            }
            addOctet(check);
        }

        private void addOctet(int octet) {
            if (octetCount < octets.length) {
                octets[octetCount] = octet;
                octetCount++;
            }
        }

        /** Becomes the ROW of a tape that is an IMAGE. */
        void readFrom(Tape tape) {
            size = 0;
            for (int i = 0; i < tape.byteAt(0); i++) {
                add(tape.byteAt(2 * i + 1), tape.byteAt(2 * i + 2));
            }
        }

        static boolean isImage(Tape tape, Court court) {
            int count = tape.byteAt(0);
            if (count == NONE || tape.size != 2 * count + 3) {
                return false;
            }
            int check = FIRST_CHECK;
            for (int i = 0; i < tape.size - 1; i++) {
                check = (3 * check + tape.byteAt(i)) % CHECKS;
            }
            return check == tape.byteAt(tape.size - 1)
                && tape.byteAt(tape.size - 2) <= court.allLines()
                && areSaid(tape, court, count);
        }

        private static boolean areSaid(Tape tape, Court court, int count) {
            int gone = 0;
            for (int i = 0; i < count; i++) {
                int witness = tape.byteAt(2 * i + 1);
                if (!court.hasWitness(witness) || (gone >> witness & 1) == 1
                    || !court.bench[witness].maySay(tape.byteAt(2 * i + 2))) {
                    return false;
                }
                gone |= 1 << witness;
            }
            return true;
        }
    }

    /**
     * Looks for THE FEWEST, and keeps what it has found until LINES or COURT change. The document has them up to
     * five, but no more than four are ever needed: a ROW that brings a RULING has a CLAUSE of the accused (CLEARED:
     * one that is turned), and that CLAUSE alone, with one turn at most, brings it already.
     */
    private static final class Planner {
        static final int PLANS = 6;
        static final int UNKNOWN = -2;

        final Judge judge;
        final int[] sizes = new int[PLANS];
        final int[][] witnesses = new int[PLANS][MOST_PLANNED];
        final int[][] sayings = new int[PLANS][MOST_PLANNED];
        int plan;
        int size;
        int ruling;
        int side;

        Planner(Judge judge) {
            this.judge = judge;
            for (int i = 0; i < PLANS; i++) {
                sizes[i] = UNKNOWN;
            }
        }

        void forget() {
            for (int i = 0; i < PLANS; i++) {
                sizes[i] = UNKNOWN;
            }
        }

        /** As plan() tells it, for a RULING of 1, 2 and a side of NONE, 0, 1. */
        int tell(int wanted, int of, int k) {
            ruling = wanted;
            side = of;
            plan = 3 * (wanted - 1) + of + 1;
            if (sizes[plan] == UNKNOWN) {
                sizes[plan] = fewest();
            }
            if (k == NONE) {
                return sizes[plan];
            }
            if (k >= 0 && k < sizes[plan]) {
                return witnesses[plan][k];
            }
            return k >= 10 && k < 10 + sizes[plan] ? sayings[plan][k - 10] : NONE;
        }

        private int fewest() {
            for (size = 1; size <= MOST_PLANNED; size++) {
                if (seek(0, Judge.START, 0)) {
                    return size;
                }
            }
            return NONE;
        }

        /** Tries who speaks at a place and all behind it, in the order in which plans are to be told. */
        private boolean seek(int place, int state, int gone) {
            if (place >= size) {
                return judge.rule(state) == ruling;
            }
            if (judge.wordsMissing(state) > size - place) {
                return false;
            }
            for (int witness = 0; witness < judge.court.witnesses; witness++) {
                if ((gone >> witness & 1) == 0 && (side == NONE || side == judge.court.bench[witness].side)) {
                    witnesses[plan][place] = witness;
                    if (seekSaying(place, state, gone | 1 << witness)) {
                        return true;
                    }
                }
            }
            return false;
        }

        private boolean seekSaying(int place, int state, int gone) {
            Witness witness = judge.court.bench[witnesses[plan][place]];
            for (int k = 0; k < witness.count; k++) {
                int next = judge.hear(state, witness.words[k]);
                sayings[plan][place] = k;
                // an empty WORD leaves the state as it was: without it fewer would do
                if (next != Judge.SENSELESS && next != state && seek(place + 1, next, gone)) {
                    return true;
                }
            }
            return false;
        }
    }

    /** BY TURNS. */
    private static final class Contest {
        final Judge judge;
        int turns;
        int firstWitness;
        int firstWord;

        Contest(Judge judge) {
            this.judge = judge;
        }

        /** 1 when the ROW comes to be GUILTY, else 0; who speaks first, and what, is left in the fields. */
        int play(int n, int state, int gone) {
            turns = n;
            firstWitness = NONE;
            firstWord = NONE;
            return outcome(0, state, gone);
        }

        private int outcome(int turn, int state, int gone) {
            if (turn >= turns) {
                return judge.rule(state) == GUILTY ? 1 : 0;
            }
            int side = turn % 2;
            int wish = 1 - side;
            if (outcome(turn + 1, state, gone) == wish) {
                return wish;
            }
            for (int witness = 0; witness < judge.court.witnesses; witness++) {
                if ((gone >> witness & 1) == 0 && judge.court.bench[witness].side == side
                    && winsBy(witness, turn, state, gone | 1 << witness)) {
                    return wish;
                }
            }
            return 1 - wish;
        }

        private boolean winsBy(int witness, int turn, int state, int gone) {
            Witness speaker = judge.court.bench[witness];
            for (int k = 0; k < speaker.count; k++) {
                if (outcome(turn + 1, judge.hear(state, speaker.words[k]), gone) == 1 - turn % 2) {
                    if (turn == 0) {
                        firstWitness = witness;
                        firstWord = k;
                    }
                    return true;
                }
            }
            return false;
        }
    }

    /** ORDERS of all WITNESSES. */
    private static final class Seats {
        final Judge judge;
        final int[] ordered = new int[MOST_WITNESSES];
        int seed = 1;

        Seats(Judge judge) {
            this.judge = judge;
        }

        void arrange(int order) {
            for (int witness = 0; witness < judge.court.witnesses; witness++) {
                int place = witness;
                while (place > 0 && isAhead(order, witness, ordered[place - 1])) {
                    ordered[place] = ordered[place - 1];
                    place--;
                }
                ordered[place] = witness;
            }
        }

        private boolean isAhead(int order, int a, int b) {
            int older = judge.court.bench[a].age - judge.court.bench[b].age;
            return order == 1 && older > 0 || order == 2 && older < 0;
        }

        void drawLot() {
            arrange(0);
            for (int place = 0; place < judge.court.witnesses; place++) {
                int drawn = place + draw(judge.court.witnesses - place);
                int witness = ordered[drawn];
                // those left close up and keep their order
                for (int i = drawn; i > place; i--) {
                    ordered[i] = ordered[i - 1];
                }
                ordered[place] = witness;
            }
        }

        private int draw(int m) {
            seed = (int) (1103515245L * seed + 12345 & 0x7fffffffL);
            return m < 1 ? 0 : seed / 64 % m;
        }

        int ruleInOrder() {
            int state = Judge.START;
            for (int place = 0; place < judge.court.witnesses; place++) {
                state = judge.hear(state, judge.court.bench[ordered[place]].words[0]);
            }
            return judge.rule(state);
        }
    }

    /**
     * BY CHANCE and AT THE INN. A ROW that makes NO SENSE early has RULING 0 however it goes on: so ways to 1 and 2
     * are walked and counted, those to 0 are the rest. Counts are kept until LINES or COURT change.
     */
    private static final class Chance {
        final Judge judge;
        final int[] ways = new int[RULINGS];
        final int[][] saying = new int[RULINGS][MOST_WITNESSES * MOST_SAID];
        final int[][] hanging = new int[RULINGS][MOST_WITNESSES];
        final int[] chosen = new int[MOST_WITNESSES];
        final boolean[] isAwayCounted = new boolean[MOST_WITNESSES];
        boolean isCounted;

        Chance(Judge judge) {
            this.judge = judge;
        }

        void forget() {
            isCounted = false;
            for (int witness = 0; witness < MOST_WITNESSES; witness++) {
                isAwayCounted[witness] = false;
            }
        }

        int allWays() {
            int all = 1;
            for (int witness = 0; witness < judge.court.witnesses; witness++) {
                all *= judge.court.bench[witness].count;
            }
            return all;
        }

        int waysTo(int ruling) {
            countWays();
            return ruling == 0 ? allWays() - ways[1] - ways[2] : ways[ruling];
        }

        int waysSaying(int ruling, int witness, int k) {
            countWays();
            int at = MOST_SAID * witness + k;
            if (ruling != 0) {
                return saying[ruling][at];
            }
            int count = judge.court.bench[witness].count;
            return count == 0 ? 0 : allWays() / count - saying[1][at] - saying[2][at];
        }

        /** How many ways bring a RULING that is another one with the WITNESS away. */
        int waysHanging(int ruling, int witness) {
            if (!isAwayCounted[witness]) {
                isAwayCounted[witness] = true;
                for (int r = 0; r < RULINGS; r++) {
                    hanging[r][witness] = 0;
                }
                walkAway(0, witness, Judge.START, Judge.START);
            }
            return hanging[ruling][witness];
        }

        private void countWays() {
            if (isCounted) {
                return;
            }
            isCounted = true;
            for (int r = 0; r < RULINGS; r++) {
                ways[r] = 0;
                for (int at = 0; at < saying[r].length; at++) {
                    saying[r][at] = 0;
                }
            }
            walk(0, Judge.START);
        }

        private void walk(int seat, int state) {
            if (state == Judge.SENSELESS) {
                return;
            }
            if (seat >= judge.court.witnesses) {
                tally(judge.rule(state));
                return;
            }
            Witness witness = judge.court.bench[seat];
            for (int k = 0; k < witness.count; k++) {
                chosen[seat] = k;
                walk(seat + 1, judge.hear(state, witness.words[k]));
            }
        }

        private void tally(int ruling) {
            if (ruling == 0) {
                return;
            }
            ways[ruling]++;
            for (int seat = 0; seat < judge.court.witnesses; seat++) {
                saying[ruling][MOST_SAID * seat + chosen[seat]]++;
            }
        }

        private void walkAway(int seat, int away, int state, int without) {
            if (state == Judge.SENSELESS && without == Judge.SENSELESS) {
                return;
            }
            if (seat >= judge.court.witnesses) {
                int ruling = judge.rule(state);
                hanging[ruling][away] += ruling != judge.rule(without) ? 1 : 0;
                return;
            }
            Witness witness = judge.court.bench[seat];
            for (int k = 0; k < witness.count; k++) {
                int word = witness.words[k];
                walkAway(seat + 1, away, judge.hear(state, word), seat == away ? without : judge.hear(without, word));
            }
        }
    }

    /** A QUESTION: its text is gone through once for FAULTS, then once for each CASE. */
    private static final class Question {
        static final String WORDS =
            "first last often total most least or and not all number words ruling fair at has min max";
        static final int FIRST = 0;
        static final int LAST = 1;
        static final int OFTEN = 2;
        static final int TOTAL = 3;
        static final int MOST = 4;
        static final int LEAST = 5;
        static final int OR = 6;
        static final int AND = 7;
        static final int NOT = 8;
        static final int ALL = 9;
        static final int NUMBER = 10;
        static final int HOW_MANY = 11;
        static final int RULING = 12;
        static final int FAIR = 13;
        static final int AT = 14;
        static final int HAS = 15;
        static final int MIN = 16;
        static final int MAX = 17;
        static final int NO_WORD_THERE = 99;
        static final int ANY_NUMBER = 9999;

        final Tape tape;
        final Judge judge;
        final int[] values = new int[MOST_CASES];
        int number;
        int ruled;
        int open;

        Question(Tape tape, Judge judge) {
            this.tape = tape;
            this.judge = judge;
        }

        long answer(int[] rulings) {
            tape.rewind();
            int asked = tape.listed(WORDS);
            number = NONE;
            ruled = 0;
            readWhole();
            if (tape.fault != 0) {
                return NOTHING;
            }
            int cases = judge.court.cases;
            for (number = 0; number < cases; number++) {
                ruled = rulings[number];
                tape.rewind();
                values[number] = readWhole();
            }
            return asked <= OFTEN ? tellTest(asked, cases) : tellSum(asked, cases);
        }

        private long tellTest(int asked, int cases) {
            int first = NONE;
            int last = NONE;
            for (int i = 0; i < cases; i++) {
                if (values[i] == 1) {
                    first = first == NONE ? i : first;
                    last = i;
                }
            }
            if (asked == OFTEN) {
                return timesIn(values, cases, 1);
            }
            return asked == FIRST ? first : last;
        }

        private long tellSum(int asked, int cases) {
            long total = 0;
            int most = cases == 0 ? 0 : values[0];
            int least = most;
            for (int i = 0; i < cases; i++) {
                total += values[i];
                most = Math.max(most, values[i]);
                least = Math.min(least, values[i]);
            }
            if (asked == TOTAL) {
                return total;
            }
            return asked == MOST ? most : least;
        }

        private int readWhole() {
            open = 0;
            int asked = tape.listed(WORDS);
            if (asked < FIRST || asked > LEAST) {
                tape.fail(SYNTAX_FAULT, tape.at);
                return 0;
            }
            tape.advance();
            int value = asked <= OFTEN ? readTest() : readSum();
            if (tape.sign != NONE) {
                tape.fail(SYNTAX_FAULT, tape.at);
            }
            return value;
        }

        private int readTest() {
            int is = readBoth();
            for (int n = 0; n < MOST_BYTES && tape.fault == 0 && tape.listed(WORDS) == OR; n++) {
                tape.advance();
                is |= readBoth();
            }
            return is;
        }

        private int readBoth() {
            int is = readFact();
            for (int n = 0; n < MOST_BYTES && tape.fault == 0 && tape.listed(WORDS) == AND; n++) {
                tape.advance();
                is &= readFact();
            }
            return is;
        }

        private int readFact() {
            int word = tape.listed(WORDS);
            if (word == ALL) {
                tape.advance();
                return 1;
            }
            if (word == NOT || tape.sign == '[') {
                return readOpened(word == NOT);
            }
            int left = readSum();
            int sign = tape.sign;
            if (sign != '<' && sign != '>' && sign != '=') {
                tape.fail(SYNTAX_FAULT, tape.at);
                return 0;
            }
            tape.take(sign);
            int right = readSum();
            boolean is = sign == '<' ? left < right : sign == '>' ? left > right : left == right;
            return is ? 1 : 0;
        }

        private int readOpened(boolean isNot) {
            if (!opens()) {
                return 0;
            }
            tape.advance();
            int is = isNot ? 1 - readFact() : readTest();
            if (!isNot) {
                tape.take(']');
            }
            open--;
            return is;
        }

        private int readSum() {
            int value = readProduct();
            for (int n = 0; n < MOST_BYTES && tape.fault == 0 && (tape.sign == '+' || tape.sign == '-'); n++) {
                boolean plus = tape.sign == '+';
                tape.advance();
                int next = readProduct();
                value = held(plus ? (long) value + next : (long) value - next);
            }
            return value;
        }

        private int readProduct() {
            int value = readPart();
            for (int n = 0; n < MOST_BYTES && tape.fault == 0 && (tape.sign == '*' || tape.sign == '/'); n++) {
                boolean times = tape.sign == '*';
                tape.advance();
                int next = readPart();
                value = times ? held((long) value * next) : next == 0 ? 0 : Math.floorDiv(value, next);
            }
            return value;
        }

        private static int held(long value) {
            return (int) Math.max(-MOST_HELD, Math.min(MOST_HELD, value));
        }

        private int readPart() {
            if (tape.fault != 0) {
                return 0;
            }
            if (tape.sign == Tape.NUMBER) {
                return tape.takeNumber(ANY_NUMBER);
            }
            if (tape.sign == '(') {
                return readBracket(NONE);
            }
            int word = tape.listed(WORDS);
            if (word < NUMBER) {
                tape.fail(SYNTAX_FAULT, tape.at);
                return 0;
            }
            if (word == AT || word == HAS) {
                return readPartOf(word);
            }
            tape.advance();
            return word == MIN || word == MAX ? readBracket(word) : simplePart(word);
        }

        private int readPartOf(int word) {
            if (!opens()) {
                return 0;
            }
            tape.advance();
            int of = readPart();
            open--;
            return word == AT ? wordAt(of) : timesHeard(of);
        }

        /** What stands in ( ): one SUM, or with MIN, MAX two of them. */
        private int readBracket(int word) {
            if (tape.sign != '(') {
                tape.fail(SYNTAX_FAULT, tape.at);
            }
            if (!opens()) {
                return 0;
            }
            tape.advance();
            int value = readSum();
            if (word != NONE) {
                tape.take(',');
                int other = readSum();
                value = word == MIN ? Math.min(value, other) : Math.max(value, other);
            }
            tape.take(')');
            open--;
            return value;
        }

        /** Whether one more may be open at once: MOST_OPEN keeps the depth of the calls low, too. */
        private boolean opens() {
            if (tape.fault == 0 && open >= MOST_OPEN) {
                tape.fail(OPEN_FAULT, tape.at);
            }
            if (tape.fault != 0) {
                return false;
            }
            open++;
            return true;
        }

        private int simplePart(int word) {
            switch (word) {
                case NUMBER:
                    return number;
                case HOW_MANY:
                    return wordsOfCase();
                case RULING:
                    return ruled;
                case FAIR:
                    return ruled == judge.court.truth() ? 1 : 0;
                default:
                    return 0;
            }
        }

        private int wordsOfCase() {
            return number == NONE ? 0 : judge.court.caseSizes[number];
        }

        private int wordAt(int place) {
            return place < 0 || place >= wordsOfCase() ? NO_WORD_THERE : judge.court.caseWords[number][place];
        }

        private int timesHeard(int word) {
            return number == NONE ? 0 : timesIn(judge.court.caseWords[number], wordsOfCase(), word);
        }
    }
}
