import java.util.ArrayList;

/**
 * A line of words that is edited at a caret. Every act is told to three lines that hold the words in
 * different ways, and their answers are compared.
 */
public final class Caretline {
    public static final int NONE = -1;
    public static final int NO_ELEMENT = -2, NO_STATE = -3, NO_INDEX = -4, FULL = -5;
    public static final int TOO_MANY = -6;

    private static final int MOST_WORDS = 100;
    private static final int MOST_LETTERS = 6;
    private static final int MOST_DIGITS = 3;
    private static final int MOST_BYTES = 300;
    private static final int MOST_ACTS = 300;
    private static final int MOST_UNDOS = 50;
    private static final int MOST_OPEN = 4;
    private static final int MOST_TURNS = 20;

    private static final int BASE = 27;
    private static final int GREATEST_WORD = 387420488;
    private static final int SIXTH_PLACE = 14348907;

    private static final int BY_NOTHING = 0;
    private static final int BY_NEXT = 1;
    private static final int BY_PREVIOUS = 2;

    private static final int ALL_DONE = 0;

    private final Editor editor = new Editor();
    private final Tape tape = new Tape();
    private final Script script = new Script();
    private int scriptStart;
    private int errorAt = NONE;
    private int ending = ALL_DONE;
    // The greatest text: every word with all its letters and a space, and the bar.
    private final char[] written = new char[MOST_WORDS * (MOST_LETTERS + 1) + 1];
    private int writtenLength;

    public Caretline() {
    }

    // ---- Acts

    public int next() {
        return editor.pass(false);
    }

    public int previous() {
        return editor.pass(true);
    }

    public int add(int word) throws IllegalArgumentException {
        requireWord(word);
        return editor.insert(word);
    }

    public int set(int word) throws IllegalArgumentException {
        requireWord(word);
        return editor.exchange(word);
    }

    public int remove() {
        return editor.drop();
    }

    public int move(int index) {
        return editor.go(index);
    }

    public int find(int word, boolean isBack) throws IllegalArgumentException {
        requireWord(word);
        return editor.seek(word, isBack);
    }

    public int swap() {
        return editor.cross();
    }

    public int undo() {
        return editor.takeBack();
    }

    public int undoable() {
        return editor.history.kept;
    }

    // ---- The tape and scripts

    public int append(int a, int b, int c, int d, int e) throws IllegalStateException {
        int more = Tape.bytesIn(a) + Tape.bytesIn(b) + Tape.bytesIn(c) + Tape.bytesIn(d) + Tape.bytesIn(e);
        if (tape.length + more > MOST_BYTES) {
            throw new IllegalStateException();
        }
        tape.take(a);
        tape.take(b);
        tape.take(c);
        tape.take(d);
        tape.take(e);
        return tape.length;
    }

    public int clearTape() {
        int length = tape.length;
        tape.length = 0;
        return length;
    }

    public int fill() throws IllegalArgumentException {
        script.split(tape);
        errorAt = script.misfitOfWords();
        tape.length = 0;
        if (errorAt != NONE) {
            throw new IllegalArgumentException();
        }
        editor.startAnew();
        for (int token = 0; token < script.count; token++) {
            editor.lines.insert(script.numberOf(token));
        }
        editor.lines.go(0);
        return editor.lines.length();
    }

    public int run() throws IllegalArgumentException {
        script.split(tape);
        errorAt = script.misfitOfScript(tape.length);
        tape.length = 0;
        ending = ALL_DONE;
        if (errorAt != NONE) {
            throw new IllegalArgumentException();
        }
        scriptStart = editor.done;
        ending = perform(0, script.count, 0);
        return editor.done - scriptStart;
    }

    public int errorPosition() {
        return errorAt;
    }

    public int endedBy() {
        return ending;
    }

    // ---- The caret

    public int nextIndex() {
        return editor.lines.caret();
    }

    public int previousIndex() {
        return editor.lines.caret() - 1;
    }

    public boolean hasNext() {
        return editor.lines.has(false);
    }

    public boolean hasPrevious() {
        return editor.lines.has(true);
    }

    public int ahead(int place) {
        Lines lines = editor.lines;
        // Compared by what is left: the sum of the caret and a great place would wrap around.
        if (place < 0 || place >= lines.length() - lines.caret()) {
            return NONE;
        }
        return lines.wordOf(lines.caret() + place);
    }

    public int behind(int place) {
        Lines lines = editor.lines;
        if (place < 0 || place >= lines.caret()) {
            return NONE;
        }
        return lines.wordOf(lines.caret() - 1 - place);
    }

    public int given() {
        int caret = editor.lines.caret();
        if (editor.side == BY_NOTHING) {
            return NONE;
        }
        return editor.lines.wordOf(editor.side == BY_NEXT ? caret - 1 : caret);
    }

    public int givenBy() {
        return editor.side;
    }

    public int refusedNow() {
        boolean isLast = !editor.lines.has(false);
        boolean isFirst = !editor.lines.has(true);
        int sum = isLast ? 1 : 0;
        sum += isFirst ? 2 : 0;
        sum += editor.lines.length() >= MOST_WORDS ? 4 : 0;
        sum += editor.side == BY_NOTHING ? 8 : 0;
        sum += isLast || isFirst ? 16 : 0;
        return sum;
    }

    // ---- The line

    public int size() {
        return editor.lines.length();
    }

    public int wordAt(int index) throws IndexOutOfBoundsException {
        if (index < 0 || index >= editor.lines.length()) {
            throw new IndexOutOfBoundsException();
        }
        return editor.lines.wordOf(index);
    }

    public int indexOf(int word) throws IllegalArgumentException {
        requireWord(word);
        return firstIndex(word);
    }

    public int lastIndexOf(int word) throws IllegalArgumentException {
        requireWord(word);
        for (int index = editor.lines.length() - 1; index >= 0; index--) {
            if (editor.lines.wordOf(index) == word) {
                return index;
            }
        }
        return NONE;
    }

    public int count(int word) throws IllegalArgumentException {
        requireWord(word);
        int times = 0;
        for (int index = 0; index < editor.lines.length(); index++) {
            if (editor.lines.wordOf(index) == word) {
                times++;
            }
        }
        return times;
    }

    public int unlike() {
        int kinds = 0;
        for (int index = 0; index < editor.lines.length(); index++) {
            if (firstIndex(editor.lines.wordOf(index)) == index) {
                kinds++;
            }
        }
        return kinds;
    }

    public int clear() {
        int before = editor.lines.length();
        editor.startAnew();
        return before;
    }

    public int write() {
        writtenLength = 0;
        int caret = editor.lines.caret();
        for (int index = 0; index < caret; index++) {
            spell(editor.lines.wordOf(index));
            put(' ');
        }
        put('|');
        for (int index = caret; index < editor.lines.length(); index++) {
            put(' ');
            spell(editor.lines.wordOf(index));
        }
        return writtenLength;
    }

    public int writtenAt(int index) throws IndexOutOfBoundsException {
        if (index < 0 || index >= writtenLength) {
            throw new IndexOutOfBoundsException();
        }
        return written[index];
    }

    // ---- Figures and second ways

    public int refusals(int kind) throws IllegalArgumentException {
        if (kind > NO_ELEMENT || kind < FULL) {
            throw new IllegalArgumentException();
        }
        return editor.refused[NO_ELEMENT - kind];
    }

    public int acts() {
        return editor.done;
    }

    public double meanLetters() {
        int words = editor.lines.length();
        if (words == 0) {
            return 0.0;
        }
        int letters = 0;
        for (int index = 0; index < words; index++) {
            letters += lettersOf(editor.lines.wordOf(index));
        }
        return (double) letters / (double) words;
    }

    public float caretShare() {
        int words = editor.lines.length();
        if (words == 0) {
            return 0.0f;
        }
        return (float) editor.lines.caret() / (float) words;
    }

    public boolean agree() {
        return editor.lines.areListAndChainAlike();
    }

    public int errors() {
        return editor.lines.unlikeAnswers;
    }

    // ---- Words

    private static void requireWord(int number) {
        if (!isWord(number)) {
            throw new IllegalArgumentException();
        }
    }

    private static boolean isWord(int number) {
        if (number < 1 || number > GREATEST_WORD) {
            return false;
        }
        for (int rest = number; rest > 0; rest /= BASE) {
            if (rest % BASE == 0) {
                return false;
            }
        }
        return true;
    }

    private static int lettersOf(int word) {
        int letters = 0;
        for (int rest = word; rest > 0; rest /= BASE) {
            letters++;
        }
        return letters;
    }

    private int firstIndex(int word) {
        for (int index = 0; index < editor.lines.length(); index++) {
            if (editor.lines.wordOf(index) == word) {
                return index;
            }
        }
        return NONE;
    }

    private void spell(int word) {
        for (int place = SIXTH_PLACE; place > 0; place /= BASE) {
            int letter = word / place % BASE;
            // A word has no 0 among its letters, so these are the places ahead of its first letter.
            if (letter != 0) {
                put((char) ('a' + letter - 1));
            }
        }
    }

    private void put(char sign) {
        if (writtenLength < written.length) {
            written[writtenLength] = sign;
            writtenLength++;
        }
    }

    // ---- Doing a script

    /** Does the acts of the tokens from one up to another; answers ALL_DONE, or what ended them. */
    private int perform(int from, int to, int depth) {
        int outcome = ALL_DONE;
        int start = from;
        for (int token = from; token < to && outcome == ALL_DONE; token++) {
            if (token == start) {
                start = script.endOf(token);
                int sign = script.kindOf(token);
                if (sign == '*') {
                    outcome = repeatUntilRefused(token, depth);
                } else if (sign == Script.NUMBER) {
                    outcome = repeatTimes(token, depth);
                } else {
                    outcome = attempt(sign, script.numberOf(token + 1));
                }
            }
        }
        return outcome;
    }

    private int repeatTimes(int token, int depth) {
        int outcome = ALL_DONE;
        int times = depth < MOST_OPEN ? script.numberOf(token) : 0;
        for (int turn = 0; turn < times && outcome == ALL_DONE; turn++) {
            outcome = perform(token + 2, script.endOf(token) - 1, depth + 1);
        }
        return outcome;
    }

    private int repeatUntilRefused(int token, int depth) {
        // Every turn but the last does an act, so there are never more turns than these.
        int turns = depth < MOST_OPEN ? MOST_ACTS + 1 : 0;
        for (int turn = 0; turn < turns; turn++) {
            int before = editor.done;
            int outcome = perform(token + 2, script.endOf(token) - 1, depth + 1);
            if (outcome == TOO_MANY) {
                return TOO_MANY;
            }
            if (outcome != ALL_DONE || editor.done == before) {
                return ALL_DONE;
            }
        }
        return ALL_DONE;
    }

    /** Does one act of a script; answers ALL_DONE, why it was refused, or TOO_MANY. */
    private int attempt(int sign, int operand) {
        if (editor.done - scriptStart >= MOST_ACTS) {
            return TOO_MANY;
        }
        int answer;
        switch (sign) {
            case '.': answer = editor.pass(false); break;
            case ',': answer = editor.pass(true); break;
            case '-': answer = editor.drop(); break;
            case '%': answer = editor.cross(); break;
            case '+': answer = editor.insert(operand); break;
            case '=': answer = editor.exchange(operand); break;
            case '>': answer = editor.seek(operand, false); break;
            case '<': answer = editor.seek(operand, true); break;
            default: answer = editor.go(operand); break;
        }
        // What an act answers when it is done is never below 0.
        return answer < 0 ? answer : ALL_DONE;
    }

    // ---- The bytes and the tokens of a text

    private static final class Tape {
        final int[] bytes = new int[MOST_BYTES];
        int length;

        static int bytesIn(int four) {
            int bytes = 0;
            for (int shift = 24; shift >= 0; shift -= 8) {
                if ((four >>> shift & 255) != 0) {
                    bytes++;
                }
            }
            return bytes;
        }

        void take(int four) {
            for (int shift = 24; shift >= 0; shift -= 8) {
                int one = four >>> shift & 255;
                if (one != 0 && length < MOST_BYTES) {
                    bytes[length] = one;
                    length++;
                }
            }
        }
    }

    /** The tokens of a text. A sign is its own kind. */
    private static final class Script {
        static final int NO_TOKEN = 0;
        static final int WORD = 1;
        static final int NUMBER = 2;
        static final int BLANK = 3;

        // What may come next, as the grammar has it.
        private static final int ACT = 0;
        private static final int ACTS_WORD = 1;
        private static final int ACTS_NUMBER = 2;
        private static final int OPENING = 3;
        private static final int MISFIT = 4;

        private final int[] kinds = new int[MOST_BYTES];
        private final int[] numbers = new int[MOST_BYTES];
        private final int[] places = new int[MOST_BYTES];
        // For a token that begins an act: the token behind this act.
        private final int[] ends = new int[MOST_BYTES];
        private final int[] opened = new int[MOST_OPEN];
        private int openCount;
        int count;

        int kindOf(int token) {
            return token >= 0 && token < count ? kinds[token] : NO_TOKEN;
        }

        int numberOf(int token) {
            return token >= 0 && token < count ? numbers[token] : 0;
        }

        int endOf(int token) {
            return token >= 0 && token < count ? ends[token] : 0;
        }

        void split(Tape tape) {
            count = 0;
            int kindBefore = BLANK;
            for (int at = 0; at < tape.length && at < MOST_BYTES; at++) {
                int one = tape.bytes[at];
                int kind = kindOfByte(one);
                if (kind == kindBefore && (kind == WORD || kind == NUMBER)) {
                    lengthen(kind, at, one);
                } else if (kind != BLANK) {
                    begin(kind, at, one);
                }
                kindBefore = kind;
            }
        }

        private static int kindOfByte(int one) {
            if (one >= 'a' && one <= 'z') {
                return WORD;
            }
            if (one >= '0' && one <= '9') {
                return NUMBER;
            }
            switch (one) {
                case ' ': case '\n':
                    return BLANK;
                case '.': case ',': case '-': case '%': case '+': case '=': case '>': case '<':
                case '@': case '*': case '{': case '}':
                    return one;
                default:
                    return NO_TOKEN;
            }
        }

        private void begin(int kind, int at, int one) {
            if (count < MOST_BYTES) {
                kinds[count] = kind;
                numbers[count] = digitOf(kind, one);
                places[count] = at;
                count++;
            }
        }

        private void lengthen(int kind, int at, int one) {
            int token = count - 1;
            if (token < 0) {
                return;
            }
            int most = kind == WORD ? MOST_LETTERS : MOST_DIGITS;
            int base = kind == WORD ? BASE : 10;
            if (at - places[token] >= most) {
                kinds[token] = NO_TOKEN;
            } else {
                numbers[token] = numbers[token] * base + digitOf(kind, one);
            }
        }

        private static int digitOf(int kind, int one) {
            return kind == WORD ? one - 'a' + 1 : one - '0';
        }

        /** Answers where a text that is to be words alone does not fit; NONE if it does. */
        int misfitOfWords() {
            for (int token = 0; token < count; token++) {
                if (kinds[token] != WORD || token >= MOST_WORDS) {
                    return places[token];
                }
            }
            return NONE;
        }

        /** Answers where a text of some length does not fit as a script; NONE if it does. */
        int misfitOfScript(int length) {
            openCount = 0;
            int wanted = ACT;
            for (int token = 0; token < count; token++) {
                wanted = wantedBehind(token, wanted);
                if (wanted == MISFIT) {
                    return places[token];
                }
            }
            return wanted == ACT && openCount == 0 ? NONE : length;
        }

        private int wantedBehind(int token, int wanted) {
            int kind = kindOf(token);
            switch (wanted) {
                case ACTS_WORD:
                    return kind == WORD ? ACT : MISFIT;
                case ACTS_NUMBER:
                    return kind == NUMBER ? ACT : MISFIT;
                case OPENING:
                    return kind == '{' ? open(token - 1) : MISFIT;
                default:
                    return kind == '}' ? close(token + 1) : beginAct(token, kind);
            }
        }

        private int beginAct(int token, int kind) {
            switch (kind) {
                case '.': case ',': case '-': case '%':
                    ends[token] = token + 1;
                    return ACT;
                case '+': case '=': case '>': case '<':
                    ends[token] = token + 2;
                    return ACTS_WORD;
                case '@':
                    ends[token] = token + 2;
                    return ACTS_NUMBER;
                case '*':
                    return OPENING;
                case NUMBER:
                    return numbers[token] >= 1 && numbers[token] <= MOST_TURNS ? OPENING : MISFIT;
                default:
                    return MISFIT;
            }
        }

        private int open(int first) {
            if (openCount >= MOST_OPEN) {
                return MISFIT;
            }
            opened[openCount] = first;
            openCount++;
            return ACT;
        }

        private int close(int end) {
            if (openCount < 1) {
                return MISFIT;
            }
            openCount--;
            ends[opened[openCount]] = end;
            return ACT;
        }
    }

    // ---- The acts

    /** Does acts or refuses them, counts both, and knows which word was given latest. */
    private static final class Editor {
        final Lines lines = new Lines();
        final History history = new History();
        // By NO_ELEMENT, NO_STATE, NO_INDEX and FULL, in this order.
        final int[] refused = new int[4];
        int done;
        int side = BY_NOTHING;

        int pass(boolean isBack) {
            if (!lines.has(isBack)) {
                return refuse(NO_ELEMENT);
            }
            int from = lines.caret();
            int word = lines.pass(isBack);
            conclude(History.CARET, from, isBack ? BY_PREVIOUS : BY_NEXT);
            return word;
        }

        int insert(int word) {
            if (lines.length() >= MOST_WORDS) {
                return refuse(FULL);
            }
            lines.insert(word);
            conclude(History.ADDED, 0, BY_NOTHING);
            return lines.length();
        }

        int exchange(int word) {
            if (side == BY_NOTHING) {
                return refuse(NO_STATE);
            }
            boolean isBehind = side == BY_NEXT;
            int old = lines.exchange(word, isBehind);
            conclude(isBehind ? History.CHANGED_BEHIND : History.CHANGED_AHEAD, old, side);
            return old;
        }

        int drop() {
            if (side == BY_NOTHING) {
                return refuse(NO_STATE);
            }
            boolean isBehind = side == BY_NEXT;
            int old = lines.drop(isBehind);
            conclude(isBehind ? History.DROPPED_BEHIND : History.DROPPED_AHEAD, old, BY_NOTHING);
            return old;
        }

        int go(int index) {
            if (index < 0 || index > lines.length()) {
                return refuse(NO_INDEX);
            }
            int from = lines.caret();
            lines.go(index);
            conclude(History.CARET, from, BY_NOTHING);
            return index;
        }

        int seek(int word, boolean isBack) {
            int steps = lines.stepsTo(word, isBack);
            if (steps == 0) {
                return refuse(NO_ELEMENT);
            }
            int from = lines.caret();
            for (int step = 0; step < steps; step++) {
                lines.pass(isBack);
            }
            conclude(History.CARET, from, isBack ? BY_PREVIOUS : BY_NEXT);
            return steps;
        }

        int cross() {
            if (!lines.has(true) || !lines.has(false)) {
                return refuse(NO_ELEMENT);
            }
            int word = lines.cross();
            conclude(History.CROSSED, 0, BY_NEXT);
            return word;
        }

        int takeBack() {
            if (history.kept == 0) {
                return NONE;
            }
            int number = history.latestNumber();
            switch (history.latestKind()) {
                case History.CARET: lines.go(number); break;
                case History.ADDED: lines.drop(true); break;
                case History.CHANGED_BEHIND: lines.exchange(number, true); break;
                case History.CHANGED_AHEAD: lines.exchange(number, false); break;
                case History.DROPPED_BEHIND: lines.insert(number); break;
                case History.DROPPED_AHEAD:
                    lines.insert(number);
                    lines.pass(true);
                    break;
                default: lines.cross(); break;
            }
            history.forgetLatest();
            side = BY_NOTHING;
            return history.kept;
        }

        void startAnew() {
            lines.empty();
            history.kept = 0;
            side = BY_NOTHING;
        }

        private void conclude(int kind, int number, int newSide) {
            history.keep(kind, number);
            done++;
            side = newSide;
        }

        private int refuse(int kind) {
            int place = NO_ELEMENT - kind;
            if (place >= 0 && place < refused.length) {
                refused[place]++;
            }
            return kind;
        }
    }

    /**
     * What the latest acts did. The latest is always undone first, so the line is then as this act left
     * it: one number (the caret or the word that was there) is enough to go back.
     */
    private static final class History {
        static final int CARET = 0;
        static final int ADDED = 1;
        static final int CHANGED_BEHIND = 2;
        static final int CHANGED_AHEAD = 3;
        static final int DROPPED_BEHIND = 4;
        static final int DROPPED_AHEAD = 5;
        static final int CROSSED = 6;

        private final int[] kinds = new int[MOST_UNDOS];
        private final int[] numbers = new int[MOST_UNDOS];
        private int latest;
        int kept;

        void keep(int kind, int number) {
            latest = (latest + 1) % MOST_UNDOS;
            kinds[latest] = kind;
            numbers[latest] = number;
            kept = Math.min(kept + 1, MOST_UNDOS);
        }

        int latestKind() {
            return kinds[latest];
        }

        int latestNumber() {
            return numbers[latest];
        }

        void forgetLatest() {
            latest = (latest + MOST_UNDOS - 1) % MOST_UNDOS;
            kept--;
        }
    }

    // ---- The three lines

    /** The three lines, told the same side by side. */
    private static final class Lines {
        private final ListLine list = new ListLine();
        private final ChainLine chain = new ChainLine();
        private final RowsLine rows = new RowsLine();
        int unlikeAnswers;

        int pass(boolean isBack) {
            return common(list.pass(isBack), chain.pass(isBack), rows.pass(isBack));
        }

        int insert(int word) {
            return common(list.insert(word), chain.insert(word), rows.insert(word));
        }

        int exchange(int word, boolean isBehind) {
            return common(list.exchange(word, isBehind), chain.exchange(word, isBehind),
                    rows.exchange(word, isBehind));
        }

        int drop(boolean isBehind) {
            return common(list.drop(isBehind), chain.drop(isBehind), rows.drop(isBehind));
        }

        void empty() {
            list.empty();
            chain.empty();
            rows.empty();
        }

        void go(int index) {
            boolean isBack = index < caret();
            for (int step = 0; step < MOST_WORDS && caret() != index; step++) {
                common(list.pass(isBack), chain.pass(isBack), rows.pass(isBack));
            }
        }

        int cross() {
            return common(list.cross(), chain.cross(), rows.cross());
        }

        int caret() {
            return rows.caret();
        }

        int length() {
            return rows.length();
        }

        boolean has(boolean isBehind) {
            return isBehind ? rows.caret() > 0 : rows.caret() < rows.length();
        }

        int wordOf(int index) {
            return rows.wordOf(index);
        }

        /** Answers after how many words a word is given; 0 if it is not there. */
        int stepsTo(int word, boolean isBack) {
            int most = isBack ? caret() : length() - caret();
            int nearest = isBack ? caret() - 1 : caret();
            for (int step = 0; step < most; step++) {
                if (wordOf(isBack ? nearest - step : nearest + step) == word) {
                    return step + 1;
                }
            }
            return 0;
        }

        boolean areListAndChainAlike() {
            if (list.length() != chain.count || list.caret != chain.caret) {
                return false;
            }
            for (int index = 0; index < list.length(); index++) {
                if (list.wordOf(index) != chain.wordOf(index)) {
                    return false;
                }
            }
            return true;
        }

        private int common(int ofList, int ofChain, int ofRows) {
            if (ofList != ofChain || ofChain != ofRows) {
                unlikeAnswers++;
            }
            return ofRows;
        }
    }

    /** The line as an ArrayList, and the index at which its iterator stands. */
    private static final class ListLine {
        private final ArrayList<Integer> words = new ArrayList<>();
        int caret;

        int pass(boolean isBack) {
            int index = isBack ? caret - 1 : caret;
            if (index < 0 || index >= words.size()) {
                return NO_ELEMENT;
            }
            caret += isBack ? -1 : 1;
            return words.get(index);
        }

        int insert(int word) {
            if (words.size() >= MOST_WORDS || caret < 0 || caret > words.size()) {
                return FULL;
            }
            words.add(caret, word);
            caret++;
            return words.size();
        }

        int exchange(int word, boolean isBehind) {
            int index = isBehind ? caret - 1 : caret;
            if (index < 0 || index >= words.size()) {
                return NO_STATE;
            }
            return words.set(index, word);
        }

        int drop(boolean isBehind) {
            int index = isBehind ? caret - 1 : caret;
            if (index < 0 || index >= words.size()) {
                return NO_STATE;
            }
            caret -= isBehind ? 1 : 0;
            return words.remove(index);
        }

        int cross() {
            if (caret < 1 || caret >= words.size()) {
                return NO_ELEMENT;
            }
            // The Integer that the list holds goes over itself, so that a swap makes no new one.
            words.add(caret - 1, words.remove(caret));
            return words.get(caret - 1);
        }

        void empty() {
            words.clear();
            caret = 0;
        }

        int length() {
            return words.size();
        }

        int wordOf(int index) {
            return index >= 0 && index < words.size() ? words.get(index) : NONE;
        }
    }

    private static final class Node {
        int word;
        Node before;
        Node after;
    }

    /** The line as a linked list: nodes to both sides of the caret, and those that are not in use. */
    private static final class ChainLine {
        private Node behind;
        private Node ahead;
        private Node spare;
        int caret;
        int count;

        ChainLine() {
            // All calls live in one room: nodes that are made once and used again do not fill it.
            for (int made = 0; made < MOST_WORDS; made++) {
                Node node = new Node();
                node.after = spare;
                spare = node;
            }
        }

        int pass(boolean isBack) {
            Node node = isBack ? behind : ahead;
            if (node == null) {
                return NO_ELEMENT;
            }
            behind = isBack ? node.before : node;
            ahead = isBack ? node : node.after;
            caret += isBack ? -1 : 1;
            return node.word;
        }

        int insert(int word) {
            Node node = spare;
            if (node == null) {
                return FULL;
            }
            spare = node.after;
            node.word = word;
            join(behind, node);
            join(node, ahead);
            behind = node;
            caret++;
            count++;
            return count;
        }

        int exchange(int word, boolean isBehind) {
            Node node = isBehind ? behind : ahead;
            if (node == null) {
                return NO_STATE;
            }
            int old = node.word;
            node.word = word;
            return old;
        }

        int drop(boolean isBehind) {
            Node node = isBehind ? behind : ahead;
            if (node == null) {
                return NO_STATE;
            }
            behind = isBehind ? node.before : behind;
            ahead = isBehind ? ahead : node.after;
            join(behind, ahead);
            node.before = null;
            node.after = spare;
            spare = node;
            caret -= isBehind ? 1 : 0;
            count--;
            return node.word;
        }

        int cross() {
            if (behind == null || ahead == null) {
                return NO_ELEMENT;
            }
            int word = ahead.word;
            ahead.word = behind.word;
            behind.word = word;
            return word;
        }

        void empty() {
            for (int turn = 0; turn < MOST_WORDS; turn++) {
                drop(true);
                drop(false);
            }
        }

        int wordOf(int index) {
            boolean isBehind = index < caret;
            Node node = isBehind ? behind : ahead;
            int steps = isBehind ? caret - 1 - index : index - caret;
            for (int step = 0; step < steps && node != null; step++) {
                node = isBehind ? node.before : node.after;
            }
            return node == null ? NONE : node.word;
        }

        private static void join(Node left, Node right) {
            if (left != null) {
                left.after = right;
            }
            if (right != null) {
                right.before = left;
            }
        }
    }

    /** The line as two rows of words: behind and ahead of the caret, the nearest word last in each. */
    private static final class RowsLine {
        private static final int BEHIND = 0;
        private static final int AHEAD = 1;

        private final int[][] rows = new int[2][MOST_WORDS];
        private final int[] counts = new int[2];

        int pass(boolean isBack) {
            int from = isBack ? BEHIND : AHEAD;
            int to = isBack ? AHEAD : BEHIND;
            if (counts[from] < 1 || counts[to] >= MOST_WORDS) {
                return NO_ELEMENT;
            }
            counts[from]--;
            int word = rows[from][counts[from]];
            rows[to][counts[to]] = word;
            counts[to]++;
            return word;
        }

        int insert(int word) {
            if (length() >= MOST_WORDS) {
                return FULL;
            }
            rows[BEHIND][counts[BEHIND]] = word;
            counts[BEHIND]++;
            return length();
        }

        int exchange(int word, boolean isBehind) {
            int row = isBehind ? BEHIND : AHEAD;
            if (counts[row] < 1) {
                return NO_STATE;
            }
            int old = rows[row][counts[row] - 1];
            rows[row][counts[row] - 1] = word;
            return old;
        }

        int drop(boolean isBehind) {
            int row = isBehind ? BEHIND : AHEAD;
            if (counts[row] < 1) {
                return NO_STATE;
            }
            counts[row]--;
            return rows[row][counts[row]];
        }

        int cross() {
            int nearestBehind = counts[BEHIND] - 1;
            int nearestAhead = counts[AHEAD] - 1;
            if (nearestBehind < 0 || nearestAhead < 0) {
                return NO_ELEMENT;
            }
            int word = rows[AHEAD][nearestAhead];
            rows[AHEAD][nearestAhead] = rows[BEHIND][nearestBehind];
            rows[BEHIND][nearestBehind] = word;
            return word;
        }

        void empty() {
            counts[BEHIND] = 0;
            counts[AHEAD] = 0;
        }

        int caret() {
            return counts[BEHIND];
        }

        int length() {
            return counts[BEHIND] + counts[AHEAD];
        }

        int wordOf(int index) {
            int fromEnd = counts[BEHIND] + counts[AHEAD] - 1 - index;
            if (index < 0 || fromEnd < 0) {
                return NONE;
            }
            return index < counts[BEHIND] ? rows[BEHIND][index] : rows[AHEAD][fromEnd];
        }
    }
}
