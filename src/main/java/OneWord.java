/**
 * A people with a single word, which means by how many breaths have gone by since it was last said.
 *
 * <p>All rows are made with the object and used again: a call makes nothing, but that the first SOONEST of so many
 * mouths makes the row it reckons in.
 */
public final class OneWord {
    public static final int NONE = -1;

    private static final int NOT_SO = -2;
    private static final int NO_SUCH_CASE = -3;
    private static final int MOST_MOUTHS = 8;
    private static final int NOBODY = 8;
    private static final int FARTHEST_PLACE = 50;
    private static final int MOST_THOUSANDTHS = 1000;
    private static final int MOST_RANGE = 200;
    private static final int MOST_SPEED = 100;
    private static final int MOST_WORDS = 4;
    private static final int HIGHEST_MEANING = 31;
    private static final int ANY_MEANING = 32;
    private static final int LONGEST_GAP = 63;
    private static final int MOST_SAYINGS = 150;
    private static final int LAST_BREATH = 9999;
    private static final int MOST_TAPE = 220;
    private static final int MOST_TEXT = 200;
    private static final int MOST_CLAUSES = 14;
    private static final int MOST_READ = 12;
    private static final int MOST_MISSED = 10;
    private static final int MOST_TABLE = 12;
    private static final int MOST_APART = 5;
    private static final int MOST_RULED_BREATHS = 400;
    private static final int MOST_DRAWN_BREATHS = 200;
    private static final int MOST_X = 65535;
    private static final int SPEAKERS_FROM = 100;
    private static final int GAPS_FROM = 200;

    private final People people;
    private final Tape tape;
    private final Talk talk;
    private final Hearings hearings;
    private final Sense sense;
    private final Grammar grammar;
    private final ReadBack readBack;
    private final Crowd crowd;
    private final Rules rules;

    public OneWord() {
        people = new People();
        tape = new Tape();
        talk = new Talk();
        hearings = new Hearings(people, talk);
        sense = new Sense(people);
        grammar = new Grammar(sense.spare);
        readBack = new ReadBack(people, sense);
        crowd = new Crowd(people, sense);
        rules = new Rules(people, sense);
    }

    public int mouth(int x, int y, int thousandths) {
        boolean placed = within(x, -FARTHEST_PLACE, FARTHEST_PLACE) && within(y, -FARTHEST_PLACE, FARTHEST_PLACE);
        if (!placed || !within(thousandths, 0, MOST_THOUSANDTHS)) {
            return NONE;
        }
        return people.join(x, y, thousandths);
    }

    public boolean air(int range, int speed) {
        if (!within(range, 0, MOST_RANGE) || !within(speed, 1, MOST_SPEED)) {
            return false;
        }
        people.range = range;
        people.speed = speed;
        hearings.forget();
        return true;
    }

    public int feed(int a, int b, int c, int d, int e) {
        return tape.put(a, b, c, d, e);
    }

    public int tongue(int n) {
        if (!within(n, 1, MOST_TEXT) || !tape.has(n)) {
            return NONE;
        }
        int answer = grammar.translate(tape, n, sense.spare);
        tape.empty();
        if (answer > 0) {
            sense.takeSpare();
            crowd.forget();
        }
        return answer;
    }

    public int sentence(int mouth, int n) {
        if (!people.has(mouth) || !within(n, 0, MOST_WORDS) || !tape.has(n)) {
            return NONE;
        }
        boolean taken = people.takeSentence(mouth, tape, n);
        tape.empty();
        if (!taken) {
            return NOT_SO;
        }
        crowd.forget();
        return n;
    }

    public int say(int mouth, int breath) {
        if (!people.has(mouth) || !within(breath, 0, LAST_BREATH) || !talk.add(mouth, breath)) {
            return NONE;
        }
        hearings.forget();
        return talk.size;
    }

    public int heard(int ear) {
        if (!people.has(ear)) {
            return NONE;
        }
        hearings.listen(ear);
        return hearings.size;
    }

    public int hearing(int ear, int i, int what) {
        if (!people.has(ear)) {
            return NONE;
        }
        hearings.listen(ear);
        if (!within(i, 0, hearings.size - 1)) {
            return NONE;
        }
        switch (what) {
            case 0:
                return hearings.breathOf(i);
            case 1:
                return hearings.whoOf(i);
            case 2:
                return hearings.gapOf(i);
            case 3:
                return meaningOf(ear, i);
            default:
                return NONE;
        }
    }

    public int way(int a, int b) {
        if (!people.has(a) || !people.has(b)) {
            return NONE;
        }
        return people.wayBetween(a, b);
    }

    public int meaning(int ear, int gap, int who, int last, int before) {
        if (!people.has(ear) || !people.has(who)) {
            return NONE;
        }
        if (!within(gap, 1, LONGEST_GAP) || !within(last, 0, NOBODY) || !within(before, 0, LONGEST_GAP)) {
            return NONE;
        }
        return sense.byEar(ear, gap, who, last, before);
    }

    public long read(int ear, int n, int what) {
        if (!people.has(ear) || !within(n, 1, MOST_READ) || !within(what, NONE, n - 1) || !tape.has(2 * n)) {
            return NONE;
        }
        boolean taken = readBack.takePairs(tape, n);
        tape.empty();
        if (!taken) {
            return NOT_SO;
        }
        hearings.listen(ear);
        readBack.beginBehind(ear, hearings);
        for (int i = 0; i < n; i++) {
            readBack.goOn(i);
        }
        readBack.keepWhatGoesOn();
        return what == NONE ? readBack.howManyRows() : readBack.whoMay(what);
    }

    public int missed(int ear, int mouth, int n, int what) {
        if (!people.has(ear) || !people.has(mouth) || !people.reaches(ear, mouth)) {
            return NONE;
        }
        if (!within(n, 1, MOST_MISSED) || !within(what, NONE, 2) || !tape.has(2 * n + 1)) {
            return NONE;
        }
        boolean taken = readBack.takeGapsThenMeanings(tape, n);
        tape.empty();
        if (!taken) {
            return NOT_SO;
        }
        hearings.listen(ear);
        readBack.beginBehind(ear, hearings);
        int ways = readBack.waysToMiss(mouth);
        if (what == NONE) {
            return ways;
        }
        return ways == 0 ? NO_SUCH_CASE : readBack.firstMissed(what);
    }

    public int soonest(int mouths, int what) {
        if (!people.hasAll(mouths) || Integer.bitCount(mouths) > Crowd.MOST_CHOSEN) {
            return NO_SUCH_CASE;
        }
        int sayings = people.wordsOf(mouths);
        boolean asksSpeaker = within(what, SPEAKERS_FROM, SPEAKERS_FROM + sayings - 1);
        boolean asksGap = within(what, GAPS_FROM, GAPS_FROM + sayings - 1);
        if (what != NONE && !asksSpeaker && !asksGap) {
            return NO_SUCH_CASE;
        }
        if (!crowd.knows(mouths)) {
            crowd.choose(mouths);
            crowd.askGaps();
            crowd.findLeast();
            crowd.findSpeakers();
            crowd.findGaps();
        }
        if (!crowd.canBe()) {
            return NOT_SO;
        }
        if (what == NONE) {
            return crowd.least;
        }
        return asksSpeaker ? crowd.speakerOf(what - SPEAKERS_FROM) : crowd.gapOf(what - GAPS_FROM);
    }

    public int byRules(int mouths, int breaths, int what) {
        if (!people.hasAll(mouths) || !within(breaths, 1, MOST_RULED_BREATHS) || !within(what, 0, 2)) {
            return NONE;
        }
        rules.play(mouths, breaths);
        if (what == 1) {
            return rules.meant;
        }
        if (what == 2) {
            return rules.sayings;
        }
        return rules.left > 0 ? NOT_SO : rules.lastMeantAt;
    }

    public int table(int n, int k, int what) {
        if (!within(n, 1, MOST_TABLE) || !within(k, 1, MOST_APART) || !tape.has(n)) {
            return NONE;
        }
        if (what != NONE && !within(what, 1, n)) {
            return NONE;
        }
        int answer = what == NONE ? Tables.leastSum(tape, n, k) : Tables.leastGap(tape, n, k, what);
        tape.empty();
        return answer;
    }

    public int alike(int n, int what) {
        if (!within(n, 1, MOST_TABLE) || !within(what, 0, 4) || !tape.has(n)) {
            return NONE;
        }
        int answer = NOT_SO;
        if (Tables.areGaps(tape, n)) {
            answer = what == 4 ? Tables.howManyAlike(tape, n) : Tables.firstAlike(tape, n, what);
        }
        tape.empty();
        return answer;
    }

    public boolean seed(int x) {
        if (!within(x, 0, MOST_X)) {
            return false;
        }
        talk.x = x;
        return true;
    }

    public int draw(int n) {
        if (!within(n, 1, MOST_DRAWN_BREATHS)) {
            return NONE;
        }
        hearings.forget();
        return talk.goOn(n, people);
    }

    public int keep() {
        talk.store();
        return talk.size;
    }

    public boolean undo() {
        hearings.forget();
        return talk.restore();
    }

    public int quiet() {
        int before = talk.size;
        talk.size = 0;
        hearings.forget();
        return before;
    }

    public int said(int i, int what) {
        if (!within(i, 0, talk.size - 1)) {
            return NONE;
        }
        switch (what) {
            case 0:
                return talk.whoOf(i);
            case 1:
                return talk.breathOf(i);
            case 2:
                return hearings.earsOf(i);
            default:
                return NONE;
        }
    }

    public int check(int ear, int n) {
        if (!people.has(ear) || !within(n, 0, MOST_TAPE / 4) || !tape.has(4 * n)) {
            return NOT_SO;
        }
        hearings.listen(ear);
        int answer = firstWrong(ear, n);
        tape.empty();
        return answer;
    }

    public int count(int what) {
        switch (what) {
            case 0:
                return people.size;
            case 1:
                return talk.size;
            case 2:
                return sense.clauses();
            case 3:
                return tape.size;
            case 4:
                return talk.x;
            case 5:
                return people.range;
            case 6:
                return people.speed;
            default:
                return countWords(what);
        }
    }

    private int countWords(int what) {
        if (people.has(what - 10)) {
            return people.wordsBy(what - 10);
        }
        int place = what - 20;
        if (what < 20 || !people.has(place / MOST_WORDS)) {
            return NONE;
        }
        int meaning = people.wordOf(place / MOST_WORDS, place % MOST_WORDS);
        return meaning == 0 ? NONE : meaning;
    }

    private int meaningOf(int ear, int i) {
        return sense.byEar(ear, hearings.gapOf(i), hearings.whoOf(i), hearings.whoOf(i - 1), hearings.gapOf(i - 1));
    }

    private int firstWrong(int ear, int n) {
        for (int i = 0; i < n; i++) {
            if (i >= hearings.size || tape.numberAt(i) != meaningOf(ear, i)) {
                return i;
            }
        }
        return hearings.size > n ? n : NONE;
    }

    private static boolean within(int number, int low, int high) {
        return number >= low && number <= high;
    }

    /** The bytes that were fed and not yet used. */
    private static final class Tape {
        private static final int FED_AT_ONCE = 20;

        private final int[] bytes = new int[MOST_TAPE];
        int size;

        int put(int a, int b, int c, int d, int e) {
            if (size + FED_AT_ONCE > MOST_TAPE) {
                return NONE;
            }
            putNumber(a);
            putNumber(b);
            putNumber(c);
            putNumber(d);
            putNumber(e);
            return size;
        }

        private void putNumber(int number) {
            for (int shift = 24; shift >= 0 && size < MOST_TAPE; shift -= 8) {
                bytes[size] = number >>> shift & 255;
                size++;
            }
        }

        boolean has(int n) {
            return n <= size;
        }

        int byteAt(int i) {
            return i >= 0 && i < size ? bytes[i] : NONE;
        }

        int numberAt(int i) {
            int from = 4 * i;
            return byteAt(from) << 24 | byteAt(from + 1) << 16 | byteAt(from + 2) << 8 | byteAt(from + 3);
        }

        void empty() {
            size = 0;
        }
    }

    /** The mouths, their places and sentences, and the air between them. */
    private static final class People {
        private final int[] xs = new int[MOST_MOUTHS];
        private final int[] ys = new int[MOST_MOUTHS];
        private final int[] thousandths = new int[MOST_MOUTHS];
        private final int[] lengths = new int[MOST_MOUTHS];
        private final int[] words = new int[MOST_MOUTHS * MOST_WORDS];
        int size;
        int range = MOST_RANGE;
        int speed = MOST_SPEED;

        int join(int x, int y, int ofThousand) {
            if (size >= MOST_MOUTHS) {
                return NONE;
            }
            xs[size] = x;
            ys[size] = y;
            thousandths[size] = ofThousand;
            size++;
            return size - 1;
        }

        boolean has(int mouth) {
            return mouth >= 0 && mouth < size;
        }

        boolean hasAll(int bits) {
            return bits > 0 && bits < 1 << size;
        }

        int wayBetween(int a, int b) {
            if (!has(a) || !has(b)) {
                return 0;
            }
            return Math.abs(xs[a] - xs[b]) + Math.abs(ys[a] - ys[b]);
        }

        boolean reaches(int ear, int who) {
            return wayBetween(ear, who) <= range;
        }

        int breathsFor(int length) {
            return speed > 0 ? length / speed : 0;
        }

        int thousandthsOf(int who) {
            return has(who) ? thousandths[who] : 0;
        }

        boolean takeSentence(int who, Tape tape, int n) {
            for (int i = 0; i < n; i++) {
                if (!within(tape.byteAt(i), 1, HIGHEST_MEANING)) {
                    return false;
                }
            }
            if (!has(who) || n > MOST_WORDS) {
                return false;
            }
            for (int i = 0; i < n; i++) {
                words[who * MOST_WORDS + i] = tape.byteAt(i);
            }
            lengths[who] = n;
            return true;
        }

        int wordsBy(int who) {
            return has(who) ? lengths[who] : 0;
        }

        /** Word i of a mouth's sentence; 0 where there is none. */
        int wordOf(int who, int i) {
            return i >= 0 && i < wordsBy(who) ? words[who * MOST_WORDS + i] : 0;
        }

        int wordsOf(int bits) {
            int sum = 0;
            for (int who = 0; who < size; who++) {
                if ((bits >> who & 1) != 0) {
                    sum += lengths[who];
                }
            }
            return sum;
        }
    }

    /** What was said, by whom and when, with the number that talk is drawn by. */
    private static final class Talk {
        private final int[] who = new int[MOST_SAYINGS];
        private final int[] breath = new int[MOST_SAYINGS];
        private final int[] keptWho = new int[MOST_SAYINGS];
        private final int[] keptBreath = new int[MOST_SAYINGS];
        int size;
        int x = 1;
        private int keptSize = NONE;
        private int keptX;

        boolean add(int speaker, int at) {
            if (size >= MOST_SAYINGS || at > LAST_BREATH || at < breathOf(size - 1)) {
                return false;
            }
            who[size] = speaker;
            breath[size] = at;
            size++;
            return true;
        }

        int whoOf(int i) {
            return i >= 0 && i < size ? who[i] : NOBODY;
        }

        /** The breath of saying i; NONE, which the next one is 0, ahead of the first. */
        int breathOf(int i) {
            return i >= 0 && i < size ? breath[i] : NONE;
        }

        int goOn(int breaths, People people) {
            int first = breathOf(size - 1) + 1;
            int before = size;
            for (int i = 0; i < breaths; i++) {
                x = (25173 * x + 13849) & MOST_X;
                int speaker = x & 7;
                if (people.has(speaker) && (x >> 3) % 1000 < people.thousandthsOf(speaker)) {
                    add(speaker, first + i);
                }
            }
            return size - before;
        }

        void store() {
            System.arraycopy(who, 0, keptWho, 0, MOST_SAYINGS);
            System.arraycopy(breath, 0, keptBreath, 0, MOST_SAYINGS);
            keptSize = size;
            keptX = x;
        }

        boolean restore() {
            if (keptSize == NONE) {
                return false;
            }
            System.arraycopy(keptWho, 0, who, 0, MOST_SAYINGS);
            System.arraycopy(keptBreath, 0, breath, 0, MOST_SAYINGS);
            size = keptSize;
            x = keptX;
            return true;
        }
    }

    /** What one ear hears, breath by breath; kept till talk or air change, as an ear is asked many times over. */
    private static final class Hearings {
        private final People people;
        private final Talk talk;
        private final int[] who = new int[MOST_SAYINGS];
        private final int[] breath = new int[MOST_SAYINGS];
        int size;
        private int listener = NONE;

        Hearings(People people, Talk talk) {
            this.people = people;
            this.talk = talk;
        }

        void forget() {
            listener = NONE;
        }

        void listen(int ear) {
            if (listener == ear) {
                return;
            }
            listener = ear;
            size = 0;
            for (int i = 0; i < talk.size; i++) {
                int speaker = talk.whoOf(i);
                if (people.reaches(ear, speaker)) {
                    place(arrival(ear, i), speaker);
                }
            }
        }

        private int arrival(int ear, int i) {
            return talk.breathOf(i) + people.breathsFor(people.wayBetween(ear, talk.whoOf(i)));
        }

        private void place(int at, int speaker) {
            int i = size;
            while (i > 0 && breath[i - 1] > at) {
                i--;
            }
            if (i > 0 && breath[i - 1] == at) {
                if (nearer(listener, speaker, who[i - 1])) {
                    who[i - 1] = speaker;
                }
                return;
            }
            if (size >= MOST_SAYINGS) {
                return;
            }
            for (int j = size; j > i; j--) {
                breath[j] = breath[j - 1];
                who[j] = who[j - 1];
            }
            breath[i] = at;
            who[i] = speaker;
            size++;
        }

        private boolean nearer(int ear, int one, int other) {
            int wayOfOne = people.wayBetween(ear, one);
            int wayOfOther = people.wayBetween(ear, other);
            return wayOfOne < wayOfOther || wayOfOne == wayOfOther && one < other;
        }

        int breathOf(int i) {
            return i >= 0 && i < size ? breath[i] : NONE;
        }

        int whoOf(int i) {
            return i >= 0 && i < size ? who[i] : NOBODY;
        }

        int gapOf(int i) {
            return i <= 0 || i >= size ? LONGEST_GAP : Math.min(LONGEST_GAP, breath[i] - breath[i - 1]);
        }

        int earsOf(int i) {
            int ears = 0;
            for (int ear = 0; ear < people.size; ear++) {
                if (people.reaches(ear, talk.whoOf(i)) && !drowned(ear, i)) {
                    ears++;
                }
            }
            return ears;
        }

        private boolean drowned(int ear, int i) {
            int at = arrival(ear, i);
            for (int j = 0; j < talk.size; j++) {
                // of two within range the nearer one is, too, so only the first need be asked
                if (arrival(ear, j) == at && nearer(ear, talk.whoOf(j), talk.whoOf(i))) {
                    return true;
                }
            }
            return false;
        }
    }

    /** A tongue as steps of a machine with a stack: of each clause first its number, then its condition. */
    private static final class Code {
        static final int NUMBER = 0;
        static final int LETTER = 1;
        static final int NOT = 2;
        static final int AND = 3;
        static final int OR = 4;

        // no step without a byte of its own in the text, so there are never more steps than bytes
        final int[] does = new int[MOST_TEXT];
        final int[] with = new int[MOST_TEXT];
        final int[] clauseLetter = new int[MOST_CLAUSES];
        final int[] numberFrom = new int[MOST_CLAUSES];
        final int[] conditionFrom = new int[MOST_CLAUSES];
        private int size;
        int clauses;
        boolean asksFit;

        void clear() {
            size = 0;
            clauses = 0;
            asksFit = false;
        }

        int add(int step, int operand) {
            if (size < MOST_TEXT) {
                does[size] = step;
                with[size] = operand;
                size++;
            }
            return size - 1;
        }

        void landHere(int jump) {
            if (jump >= 0 && jump < size) {
                with[jump] = size;
            }
        }

        void beginClause(int letter) {
            if (clauses < MOST_CLAUSES) {
                clauseLetter[clauses] = letter;
                numberFrom[clauses] = size;
                clauses++;
            }
        }

        void beginCondition() {
            if (clauses > 0 && clauses <= MOST_CLAUSES) {
                conditionFrom[clauses - 1] = size;
            }
        }

        int endOf(int clause) {
            return clause >= 0 && clause + 1 < clauses ? numberFrom[clause + 1] : size;
        }
    }

    /** Reads a text from the left and stops at the first fault; each part stands at the byte it has come to. */
    private static final class Grammar {
        private static final int MOST_OPEN = 6;
        private static final int MOST_DIGITS = 5;
        private static final int WRONG_SIGN = 1;
        private static final int SIXTH_DIGIT = 2;
        private static final int CLAUSE_TOO_MANY = 4;
        private static final int OPEN_TOO_MANY = 5;
        private static final String LETTERS = "gwlpsdekaf";

        private final int[] text = new int[MOST_TEXT];
        private Code code;
        private int length;
        private int at;
        private int open;
        private int fault;

        Grammar(Code into) {
            code = into;
        }

        /** How many clauses there are, or the fault as it is to be told. */
        int translate(Tape from, int n, Code into) {
            length = Math.min(n, MOST_TEXT);
            for (int i = 0; i < length; i++) {
                text[i] = from.byteAt(i);
            }
            code = into;
            code.clear();
            at = 0;
            open = 0;
            fault = 0;
            for (int i = 0; i <= MOST_CLAUSES && fault == 0; i++) {
                clause();
                if (fault == 0 && at >= length) {
                    return code.clauses;
                }
                pass(';');
            }
            return -1000 * fault - at;
        }

        private int next() {
            return at >= 0 && at < length ? text[at] : NONE;
        }

        private void fail(int number) {
            if (fault == 0) {
                fault = number;
            }
        }

        private void pass(char sign) {
            if (fault != 0) {
                return;
            }
            if (next() == sign) {
                at++;
            } else {
                fail(WRONG_SIGN);
            }
        }

        private void enter() {
            if (open >= MOST_OPEN) {
                fail(OPEN_TOO_MANY);
                return;
            }
            open++;
            at++;
        }

        private void clause() {
            int letter = next();
            if (letter != 'm' && letter != 'r') {
                fail(WRONG_SIGN);
                return;
            }
            if (code.clauses >= MOST_CLAUSES) {
                fail(CLAUSE_TOO_MANY);
                return;
            }
            at++;
            code.beginClause(letter);
            sum();
            code.beginCondition();
            group();
        }

        private void group() {
            if (fault != 0) {
                return;
            }
            if (next() != '(') {
                fail(WRONG_SIGN);
                return;
            }
            enter();
            condition();
            pass(')');
            open--;
        }

        private void condition() {
            allOf();
            for (int i = 0; i < MOST_TEXT && fault == 0 && next() == '|'; i++) {
                at++;
                int jump = code.add(Code.OR, 0);
                allOf();
                code.landHere(jump);
            }
        }

        private void allOf() {
            piece();
            for (int i = 0; i < MOST_TEXT && fault == 0 && next() == '&'; i++) {
                at++;
                int jump = code.add(Code.AND, 0);
                piece();
                code.landHere(jump);
            }
        }

        private void piece() {
            if (fault != 0) {
                return;
            }
            int sign = next();
            if (sign == '!') {
                enter();
                piece();
                open--;
                code.add(Code.NOT, 0);
            } else if (sign == '(') {
                group();
            } else {
                comparison();
            }
        }

        private void comparison() {
            sum();
            if (fault != 0) {
                return;
            }
            int sign = next();
            if (sign != '<' && sign != '>' && sign != '=') {
                fail(WRONG_SIGN);
                return;
            }
            at++;
            sum();
            code.add(sign, 0);
        }

        private void sum() {
            product();
            for (int i = 0; i < MOST_TEXT && fault == 0; i++) {
                int sign = next();
                if (sign != '+' && sign != '-') {
                    return;
                }
                at++;
                product();
                code.add(sign, 0);
            }
        }

        private void product() {
            factor();
            for (int i = 0; i < MOST_TEXT && fault == 0; i++) {
                int sign = next();
                if (sign != '*' && sign != '/' && sign != '%') {
                    return;
                }
                at++;
                factor();
                code.add(sign, 0);
            }
        }

        private void factor() {
            if (fault != 0) {
                return;
            }
            int sign = next();
            if (sign == '[') {
                enter();
                sum();
                pass(']');
                open--;
            } else if (isDigit(sign)) {
                number();
            } else {
                letter(sign);
            }
        }

        private static boolean isDigit(int sign) {
            return sign >= '0' && sign <= '9';
        }

        private void number() {
            int value = 0;
            for (int digits = 0; isDigit(next()); digits++) {
                if (digits == MOST_DIGITS) {
                    fail(SIXTH_DIGIT);
                    return;
                }
                value = 10 * value + next() - '0';
                at++;
            }
            code.add(Code.NUMBER, value);
        }

        private void letter(int sign) {
            int which = sign < 0 ? NONE : LETTERS.indexOf((char) sign);
            if (which < 0) {
                fail(WRONG_SIGN);
                return;
            }
            if (which == Sense.FIT) {
                code.asksFit = true;
            }
            at++;
            code.add(Code.LETTER, which);
        }
    }

    /** What the word means to an ear, and how much a mouth wants to speak, by the tongue as it is. */
    private static final class Sense {
        private static final int GAP = 0;
        private static final int WHO = 1;
        private static final int LAST = 2;
        private static final int BEFORE = 3;
        private static final int SAME = 4;
        private static final int WAY = 5;
        private static final int EAR = 6;
        private static final int LEFT = 7;
        private static final int NEXT = 8;
        static final int FIT = 9;
        private static final int HIGHEST_WISH = 1000;
        // six brackets hold two numbers each, a comparison one, and the innermost sum three
        private static final int DEEPEST = 24;

        private final People people;
        private final int[] letters = new int[10];
        private final int[] stack = new int[DEEPEST];
        private Code code = new Code();
        // a text is translated apart from the one in use, which stays if there is a fault
        Code spare = new Code();
        private boolean refused;

        Sense(People people) {
            this.people = people;
        }

        int clauses() {
            return code.clauses;
        }

        void takeSpare() {
            Code old = code;
            code = spare;
            spare = old;
        }

        int byEar(int ear, int gap, int who, int last, int before) {
            set(gap, who, last, before, ear, people.wayBetween(ear, who));
            return firstHolding('m', HIGHEST_MEANING);
        }

        int inCrowd(int gap, int who, int last, int before) {
            set(gap, who, last, before, who, 0);
            return firstHolding('m', HIGHEST_MEANING);
        }

        int wish(int gap, int who, int last, int before, int left, int next) {
            boolean fits = code.asksFit && inCrowd(gap, who, last, before) == next;
            set(gap, who, last, before, who, 0);
            letters[LEFT] = left;
            letters[NEXT] = next;
            letters[FIT] = fits ? 1 : 0;
            return firstHolding('r', HIGHEST_WISH);
        }

        private void set(int gap, int who, int last, int before, int ear, int way) {
            letters[GAP] = gap;
            letters[WHO] = who;
            letters[LAST] = last;
            letters[BEFORE] = before;
            letters[SAME] = who == last ? 1 : 0;
            letters[WAY] = way;
            letters[EAR] = ear;
            letters[LEFT] = 0;
            letters[NEXT] = 0;
            letters[FIT] = 0;
        }

        private int letterAt(int i) {
            return i >= 0 && i < letters.length ? letters[i] : 0;
        }

        private int firstHolding(int letter, int most) {
            for (int i = 0; i < code.clauses && i < MOST_CLAUSES; i++) {
                if (code.clauseLetter[i] == letter) {
                    boolean holds = run(code.conditionFrom[i], code.endOf(i)) != 0;
                    if (holds) {
                        int value = run(code.numberFrom[i], code.conditionFrom[i]);
                        return Math.max(0, Math.min(most, value));
                    }
                }
            }
            return 0;
        }

        /** What the steps leave on the stack; 0, which is no number and no condition that holds, if it is refused. */
        private int run(int from, int to) {
            int top = 0;
            refused = false;
            for (int at = from; at < to && at < MOST_TEXT; at++) {
                int step = code.does[at];
                int operand = code.with[at];
                if (step == Code.NUMBER || step == Code.LETTER) {
                    if (top >= DEEPEST) {
                        return 0;
                    }
                    stack[top] = step == Code.NUMBER ? operand : letterAt(operand);
                    top++;
                } else if (top < 1) {
                    return 0;
                } else if (step == Code.NOT) {
                    stack[top - 1] = 1 - stack[top - 1];
                } else if (step == Code.AND || step == Code.OR) {
                    if (stack[top - 1] == 1 == (step == Code.OR)) {
                        // jumps lead onward only: what was asked is left there for what comes behind
                        at = Math.max(at, operand - 1);
                    } else {
                        top--;
                    }
                } else if (top < 2) {
                    return 0;
                } else {
                    top--;
                    stack[top - 1] = reckon(step, stack[top - 1], stack[top]);
                }
                if (refused) {
                    return 0;
                }
            }
            return top > 0 ? stack[0] : 0;
        }

        private int reckon(int sign, int left, int right) {
            if ((sign == '/' || sign == '%') && right == 0) {
                refused = true;
                return 0;
            }
            switch (sign) {
                case '+':
                    return left + right;
                case '-':
                    return left - right;
                case '*':
                    return left * right;
                case '/':
                    return left / right;
                case '%':
                    return left % right;
                case '<':
                    return left < right ? 1 : 0;
                case '>':
                    return left > right ? 1 : 0;
                default:
                    return left == right ? 1 : 0;
            }
        }
    }

    /** Rows of gaps read back for an ear: who may have said them, and what it may have missed. */
    private static final class ReadBack {
        private static final int FOLLOWED = NOBODY + 1;

        private final People people;
        private final Sense sense;
        private final int[] gaps = new int[MOST_READ];
        private final int[] told = new int[MOST_READ];
        // for each saying and each mouth ahead of it (or nobody), who may have said it
        private final int[] follow = new int[MOST_READ * FOLLOWED];
        private final int[] may = new int[MOST_READ];
        private final int[] first = new int[3];
        private final boolean[] restFits = new boolean[MOST_MISSED + 2];
        private long[] rows = new long[FOLLOWED];
        private long[] rowsAhead = new long[FOLLOWED];
        private int size;
        private int ear;
        private int lastHeard;
        private int lastGap;
        private int ways;

        ReadBack(People people, Sense sense) {
            this.people = people;
            this.sense = sense;
        }

        boolean takePairs(Tape tape, int n) {
            size = Math.min(n, MOST_READ);
            for (int i = 0; i < size; i++) {
                gaps[i] = tape.byteAt(2 * i);
                told[i] = tape.byteAt(2 * i + 1);
            }
            return allSuch(size);
        }

        boolean takeGapsThenMeanings(Tape tape, int n) {
            size = Math.min(n, MOST_MISSED);
            for (int i = 0; i < size; i++) {
                gaps[i] = tape.byteAt(i);
            }
            for (int i = 0; i <= size; i++) {
                told[i] = tape.byteAt(size + i);
            }
            return allSuch(size + 1);
        }

        private boolean allSuch(int meanings) {
            for (int i = 0; i < size; i++) {
                if (!within(gaps[i], 1, LONGEST_GAP)) {
                    return false;
                }
            }
            for (int i = 0; i < meanings && i < MOST_READ; i++) {
                if (!within(told[i], 0, ANY_MEANING)) {
                    return false;
                }
            }
            return true;
        }

        void beginBehind(int listener, Hearings hearings) {
            ear = listener;
            lastHeard = hearings.whoOf(hearings.size - 1);
            lastGap = hearings.gapOf(hearings.size - 1);
            for (int who = 0; who <= NOBODY; who++) {
                rows[who] = who == lastHeard ? 1 : 0;
            }
        }

        /** Whether the ear can have heard it so: a gap is a hearing's, so nobody beyond range ever makes one. */
        private boolean fits(int meaning, int gap, int who, int last, int before) {
            if (meaning < 0 || meaning >= MOST_READ || !people.reaches(ear, who)) {
                return false;
            }
            return told[meaning] == ANY_MEANING || sense.byEar(ear, gap, who, last, before) == told[meaning];
        }

        private int followers(int i, int last) {
            int before = i == 0 ? lastGap : gaps[i - 1];
            int found = 0;
            for (int who = 0; who < people.size; who++) {
                if (fits(i, gaps[i], who, last, before)) {
                    found |= 1 << who;
                }
            }
            return found;
        }

        /** Counts the rows up to saying i by who ends them: all that comes behind asks for nobody but the last. */
        void goOn(int i) {
            if (i < 0 || i >= size) {
                return;
            }
            long[] ahead = rows;
            rows = rowsAhead;
            rowsAhead = ahead;
            for (int who = 0; who <= NOBODY; who++) {
                rows[who] = 0;
            }
            may[i] = 0;
            for (int last = 0; last <= NOBODY; last++) {
                int found = rowsAhead[last] == 0 ? 0 : followers(i, last);
                follow[i * FOLLOWED + last] = found;
                may[i] |= found;
                for (int who = 0; who < MOST_MOUTHS; who++) {
                    rows[who] += (found >> who & 1) * rowsAhead[last];
                }
            }
        }

        long howManyRows() {
            long sum = 0;
            for (int who = 0; who < MOST_MOUTHS; who++) {
                sum += rows[who];
            }
            return sum;
        }

        void keepWhatGoesOn() {
            for (int i = size - 2; i >= 0; i--) {
                for (int who = 0; who < MOST_MOUTHS; who++) {
                    boolean able = (may[i] >> who & 1) != 0;
                    if (able && (follow[(i + 1) * FOLLOWED + who] & may[i + 1]) == 0) {
                        may[i] &= ~(1 << who);
                    }
                }
            }
        }

        int whoMay(int i) {
            return i >= 0 && i < size ? may[i] : 0;
        }

        int firstMissed(int what) {
            return what >= 0 && what < first.length ? first[what] : NONE;
        }

        int waysToMiss(int mouth) {
            ways = 0;
            judgeRest(mouth);
            int last = lastHeard;
            int before = lastGap;
            for (int i = 0; i < size; i++) {
                if (restFits[i + 2]) {
                    missWithin(i, mouth, last, before);
                }
                if (!fits(i, gaps[i], mouth, last, before)) {
                    return ways;
                }
                last = mouth;
                before = gaps[i];
            }
            return ways;
        }

        /** From which gap on all mean what was told one place later, if what was missed lies two gaps ahead or more. */
        private void judgeRest(int mouth) {
            restFits[size + 1] = true;
            restFits[size] = true;
            for (int i = size - 1; i >= 2; i--) {
                restFits[i] = restFits[i + 1] && fits(i + 1, gaps[i], mouth, mouth, gaps[i - 1]);
            }
        }

        private void missWithin(int i, int mouth, int last, int before) {
            for (int part = 1; part < gaps[i]; part++) {
                int rest = gaps[i] - part;
                boolean onward = i + 1 >= size || fits(i + 2, gaps[i + 1], mouth, mouth, rest);
                for (int who = 0; onward && who < people.size; who++) {
                    if (fits(i, part, who, last, before) && fits(i + 1, rest, mouth, who, part)) {
                        note(i, part, who);
                    }
                }
            }
        }

        private void note(int gap, int part, int who) {
            if (ways == 0) {
                first[0] = gap;
                first[1] = part;
                first[2] = who;
            }
            ways++;
        }
    }

    /** How a crowd gets its sentences out soonest; what was found last is kept till tongue or sentences change. */
    private static final class Crowd {
        static final int MOST_CHOSEN = 4;
        private static final int MOST_STEPS = MOST_CHOSEN * MOST_WORDS;
        private static final int MOST_GAP = 20;
        // gaps 1 to 20, and 0 for the 63 that only the first saying has
        private static final int GAPS = MOST_GAP + 1;
        // a pair is who spoke last and by which gap
        private static final int PAIRS = MOST_CHOSEN * GAPS;
        private static final int NEVER = 1000000;
        private static final int UNKNOWN = -1;
        // how many of its words each has said, 0 to 4, is one number, a digit to base five for each
        private static final int BASE = MOST_WORDS + 1;
        private static final int[] ONE_BY = {1, 5, 25, 125, 625};

        private final People people;
        private final Sense sense;
        private final int[] chosen = new int[MOST_CHOSEN];
        private final int[] fitting = new int[PAIRS * MOST_CHOSEN * MOST_WORDS];
        private final boolean[] reached = new boolean[PAIRS];
        private final int[] queue = new int[PAIRS];
        private final int[] speakers = new int[MOST_STEPS];
        private final int[] gaps = new int[MOST_STEPS];
        private final int[] lossless = new int[MOST_STEPS];
        private int[] costs = new int[0];
        private int bits;
        private int size;
        private int steps;
        private int pairs;
        int least;

        Crowd(People people, Sense sense) {
            this.people = people;
            this.sense = sense;
        }

        void forget() {
            bits = 0;
        }

        boolean knows(int mouths) {
            return bits == mouths;
        }

        boolean canBe() {
            return least < NEVER;
        }

        int speakerOf(int i) {
            return i >= 0 && i < steps ? chosen[speakers[i]] : NONE;
        }

        int gapOf(int i) {
            return i >= 0 && i < steps ? gaps[i] : NONE;
        }

        void choose(int mouths) {
            bits = mouths;
            size = 0;
            steps = 0;
            for (int who = 0; who < people.size && size < MOST_CHOSEN; who++) {
                if ((mouths >> who & 1) != 0) {
                    chosen[size] = who;
                    size++;
                    steps += people.wordsBy(who);
                }
            }
            int needed = ONE_BY[size] * size * GAPS;
            if (costs.length < needed) {
                costs = new int[needed];
            }
            for (int i = 0; i < needed; i++) {
                costs[i] = UNKNOWN;
            }
        }

        /** What each would mean behind any gap the crowd can come to: of no other, as the tongue is dear to ask. */
        void askGaps() {
            for (int i = 0; i < fitting.length; i++) {
                fitting[i] = 0;
            }
            for (int i = 0; i < PAIRS; i++) {
                reached[i] = false;
            }
            pairs = 0;
            for (int who = 0; who < size; who++) {
                int word = people.wordOf(chosen[who], 0);
                if (word != 0 && sense.inCrowd(LONGEST_GAP, chosen[who], NOBODY, LONGEST_GAP) == word) {
                    reach(who, 0);
                }
            }
            for (int i = 0; i < pairs && i < PAIRS; i++) {
                for (int who = 0; who < size; who++) {
                    askBehind(queue[i], who);
                }
            }
        }

        private void reach(int who, int gap) {
            int pair = who * GAPS + gap;
            if (pair >= 0 && pair < PAIRS && !reached[pair] && pairs < PAIRS) {
                reached[pair] = true;
                queue[pairs] = pair;
                pairs++;
            }
        }

        private void askBehind(int pair, int who) {
            int last = chosen[pair / GAPS];
            int gap = pair % GAPS == 0 ? LONGEST_GAP : pair % GAPS;
            int words = people.wordsBy(chosen[who]);
            for (int next = 1; next <= MOST_GAP && words > 0; next++) {
                int meant = sense.inCrowd(next, chosen[who], last, gap);
                for (int i = 0; i < words; i++) {
                    if (people.wordOf(chosen[who], i) == meant) {
                        fitting[(pair * MOST_CHOSEN + who) * MOST_WORDS + i] |= 1 << next;
                        reach(who, next);
                    }
                }
            }
        }

        void findLeast() {
            least = steps == 0 ? 0 : NEVER;
            for (int who = 0; who < size; who++) {
                least = Math.min(least, costBegunBy(who));
            }
        }

        private int costBegunBy(int who) {
            return reached[who * GAPS] ? cost(ONE_BY[who], who, 0, steps - 1) : NEVER;
        }

        private int wordsOut(int out, int who) {
            return who >= 0 && who < MOST_CHOSEN ? out / ONE_BY[who] % BASE : 0;
        }

        /** The least breaths for all that is left; it goes no deeper than there are words left, 15 at most. */
        private int cost(int out, int last, int gap, int left) {
            int at = (out * size + last) * GAPS + gap;
            if (left <= 0 || at < 0 || at >= costs.length) {
                return left <= 0 ? 0 : NEVER;
            }
            if (costs[at] != UNKNOWN) {
                return costs[at];
            }
            int best = NEVER;
            for (int who = 0; who < size; who++) {
                int fit = fittingGaps(last, gap, who, wordsOut(out, who));
                // each word left takes a breath at least, so longer gaps can't be better any more
                for (int next = 1; next <= MOST_GAP && next + left - 1 < best; next++) {
                    if ((fit >> next & 1) != 0) {
                        best = Math.min(best, next + cost(out + ONE_BY[who], who, next, left - 1));
                    }
                }
            }
            costs[at] = best;
            return best;
        }

        /** The gaps, as bits, by which one means its word i behind another's gap. */
        private int fittingGaps(int last, int gap, int who, int i) {
            int at = ((last * GAPS + gap) * MOST_CHOSEN + who) * MOST_WORDS + i;
            return i >= 0 && i < MOST_WORDS && at >= 0 && at < fitting.length ? fitting[at] : 0;
        }

        /** The gaps by which one may go on, behind any of some gaps of the last one's, so that no breath is lost. */
        private int losslessGaps(int behind, int out, int last, int who, int left) {
            int found = 0;
            for (int gap = 0; gap < GAPS; gap++) {
                if ((behind >> gap & 1) != 0) {
                    int due = cost(out, last, gap, left);
                    int fit = fittingGaps(last, gap, who, wordsOut(out, who));
                    for (int next = 1; next <= MOST_GAP && next + left - 1 <= due; next++) {
                        boolean fits = (fit >> next & 1) != 0;
                        if (fits && next + cost(out + ONE_BY[who], who, next, left - 1) == due) {
                            found |= 1 << next;
                        }
                    }
                }
            }
            return found;
        }

        /** The least row of speakers comes ahead of the gaps, so all gaps that still may be are taken along. */
        void findSpeakers() {
            if (!canBe() || steps == 0) {
                return;
            }
            int last = 0;
            while (last < size - 1 && costBegunBy(last) != least) {
                last++;
            }
            speakers[0] = last;
            lossless[0] = 1;
            int out = ONE_BY[last];
            for (int i = 1; i < steps; i++) {
                int who = 0;
                lossless[i] = losslessGaps(lossless[i - 1], out, last, who, steps - i);
                while (who < size - 1 && lossless[i] == 0) {
                    who++;
                    lossless[i] = losslessGaps(lossless[i - 1], out, last, who, steps - i);
                }
                speakers[i] = who;
                out += ONE_BY[who];
                last = who;
            }
        }

        void findGaps() {
            if (!canBe() || steps == 0) {
                return;
            }
            int out = dropDeadEnds();
            int gap = 0;
            gaps[0] = LONGEST_GAP;
            for (int i = 1; i < steps; i++) {
                int may = losslessGaps(1 << gap, out, speakers[i - 1], speakers[i], steps - i) & lossless[i];
                gap = Math.min(MOST_GAP, Integer.numberOfTrailingZeros(may));
                gaps[i] = gap;
                out += ONE_BY[speakers[i]];
            }
        }

        /** Leaves of each saying's gaps those from which the speakers go on as found; answers what is out after one. */
        private int dropDeadEnds() {
            int out = 0;
            for (int i = 0; i < steps; i++) {
                out += ONE_BY[speakers[i]];
            }
            for (int i = steps - 1; i >= 1; i--) {
                out -= ONE_BY[speakers[i]];
                int alive = 0;
                for (int gap = 0; gap < GAPS; gap++) {
                    int one = lossless[i - 1] & 1 << gap;
                    boolean goesOn = one != 0
                        && (losslessGaps(one, out, speakers[i - 1], speakers[i], steps - i) & lossless[i]) != 0;
                    alive |= goesOn ? one : 0;
                }
                lossless[i - 1] = alive;
            }
            return out;
        }
    }

    /** Who speaks when each goes by the tongue's rules of waiting. */
    private static final class Rules {
        private final People people;
        private final Sense sense;
        private final int[] wordsOut = new int[MOST_MOUTHS];
        int left;
        int meant;
        int sayings;
        int lastMeantAt;
        private int last;
        private int before;

        Rules(People people, Sense sense) {
            this.people = people;
            this.sense = sense;
        }

        void play(int bits, int breaths) {
            begin(bits);
            int lastAt = 0;
            for (int breath = 0; breath < breaths && left > 0; breath++) {
                int gap = sayings == 0 ? LONGEST_GAP : Math.min(LONGEST_GAP, breath - lastAt);
                int speaker = mostEager(bits, gap);
                if (speaker != NONE) {
                    speak(speaker, gap, breath);
                    lastAt = breath;
                } else if (gap == LONGEST_GAP) {
                    // the gap grows no more, so nobody will ever want to
                    return;
                }
            }
        }

        private void begin(int bits) {
            for (int who = 0; who < MOST_MOUTHS; who++) {
                wordsOut[who] = 0;
            }
            left = people.wordsOf(bits);
            meant = 0;
            sayings = 0;
            lastMeantAt = 0;
            last = NOBODY;
            before = LONGEST_GAP;
        }

        private int mostEager(int bits, int gap) {
            int best = NONE;
            int most = 0;
            for (int who = 0; who < people.size; who++) {
                int words = people.wordsBy(who) - wordsOut[who];
                if ((bits >> who & 1) != 0 && words > 0) {
                    int wish = sense.wish(gap, who, last, before, words, people.wordOf(who, wordsOut[who]));
                    if (wish > most) {
                        most = wish;
                        best = who;
                    }
                }
            }
            return best;
        }

        private void speak(int who, int gap, int breath) {
            sayings++;
            if (sense.inCrowd(gap, who, last, before) == people.wordOf(who, wordsOut[who])) {
                wordsOut[who]++;
                meant++;
                left--;
                lastMeantAt = breath;
            }
            last = who;
            before = gap;
        }
    }

    /** Tables of gaps on the tape: the cheapest one for told uses, and what a breath makes alike in a told one. */
    private static final class Tables {
        /** The more a meaning is used, the shorter its gap: so its gap goes by how many are ahead of it. */
        static int leastGap(Tape tape, int n, int apart, int meaning) {
            int uses = tape.byteAt(meaning - 1);
            int ahead = 0;
            for (int i = 1; i <= n; i++) {
                int others = tape.byteAt(i - 1);
                if (others > uses || others == uses && i < meaning) {
                    ahead++;
                }
            }
            return 1 + apart * ahead;
        }

        static int leastSum(Tape tape, int n, int apart) {
            int sum = 0;
            for (int i = 1; i <= n; i++) {
                sum += tape.byteAt(i - 1) * leastGap(tape, n, apart, i);
            }
            return sum;
        }

        static boolean areGaps(Tape tape, int n) {
            for (int i = 1; i <= n; i++) {
                int gap = tape.byteAt(i - 1);
                if (!within(gap, 1, LONGEST_GAP) || meaningOf(tape, n, gap) != i) {
                    return false;
                }
            }
            return true;
        }

        /** The first meaning of a gap; 0: none. */
        private static int meaningOf(Tape tape, int n, int gap) {
            for (int i = 1; i <= n; i++) {
                if (tape.byteAt(i - 1) == gap) {
                    return i;
                }
            }
            return 0;
        }

        private static int shifted(Tape tape, int n, int meaning, int by) {
            return meaningOf(tape, n, tape.byteAt(meaning - 1) + by);
        }

        private static int firstShifted(Tape tape, int n, int by) {
            for (int i = 1; i <= n; i++) {
                if (shifted(tape, n, i, by) != 0) {
                    return i;
                }
            }
            return 0;
        }

        private static int howManyShifted(Tape tape, int n, int by) {
            int found = 0;
            for (int i = 1; i <= n; i++) {
                found += shifted(tape, n, i, by) != 0 ? 1 : 0;
            }
            return found;
        }

        /** Any first meaning that can be late goes with any second one that can be early. */
        static int howManyAlike(Tape tape, int n) {
            return howManyShifted(tape, n, 1) * howManyShifted(tape, n, -1);
        }

        static int firstAlike(Tape tape, int n, int what) {
            int first = firstShifted(tape, n, 1);
            int second = firstShifted(tape, n, -1);
            if (first == 0 || second == 0) {
                return NO_SUCH_CASE;
            }
            switch (what) {
                case 0:
                    return first;
                case 1:
                    return second;
                case 2:
                    return shifted(tape, n, first, 1);
                default:
                    return shifted(tape, n, second, -1);
            }
        }
    }
}
