import java.util.ArrayDeque;
import java.util.ArrayList;
import java.util.Arrays;
import java.util.Deque;
import java.util.LinkedList;
import java.util.List;
import java.util.ListIterator;

/**
 * What the document says, told a second way for OracleTest: the line is a LinkedList with its ListIterator,
 * undo keeps whole copies, and scripts are read and done by descent on the text itself.
 */
final class Model {
    private static final int OK = 0;

    private record Copy(List<Integer> words, int caret) {
    }

    /** A script's text does not fit at a place. */
    private static final class Misfit extends RuntimeException {
        private static final long serialVersionUID = 1L;
        final int place;

        Misfit(int place) {
            this.place = place;
        }
    }

    List<Integer> words = new LinkedList<>();
    ListIterator<Integer> caret = words.listIterator();
    int by;
    int given = Caretline.NONE;
    final Deque<Copy> copies = new ArrayDeque<>();
    final int[] refusals = new int[6];
    int acts;
    String tape = "";
    String written = null;
    int errorPosition = Caretline.NONE;
    int endedBy;
    private int left;

    private int refuse(int kind) {
        refusals[-kind]++;
        return kind;
    }

    private void keep() {
        copies.addLast(new Copy(new ArrayList<>(words), caret.nextIndex()));
        if (copies.size() > 50) {
            copies.removeFirst();
        }
        acts++;
    }

    private void stand(int index) {
        caret = words.listIterator(index);
        by = 0;
        given = Caretline.NONE;
    }

    int next() {
        if (!caret.hasNext()) {
            return refuse(Caretline.NO_ELEMENT);
        }
        keep();
        by = 1;
        given = caret.next();
        return given;
    }

    int previous() {
        if (!caret.hasPrevious()) {
            return refuse(Caretline.NO_ELEMENT);
        }
        keep();
        by = 2;
        given = caret.previous();
        return given;
    }

    int add(int word) {
        if (words.size() == 100) {
            return refuse(Caretline.FULL);
        }
        keep();
        caret.add(word);
        by = 0;
        given = Caretline.NONE;
        return words.size();
    }

    int set(int word) {
        if (by == 0) {
            return refuse(Caretline.NO_STATE);
        }
        keep();
        int old = given;
        caret.set(word);
        given = word;
        return old;
    }

    int remove() {
        if (by == 0) {
            return refuse(Caretline.NO_STATE);
        }
        keep();
        int old = given;
        caret.remove();
        by = 0;
        given = Caretline.NONE;
        return old;
    }

    int move(int index) {
        if (index < 0 || index > words.size()) {
            return refuse(Caretline.NO_INDEX);
        }
        keep();
        stand(index);
        return index;
    }

    int find(int word, boolean isBack) {
        int at = caret.nextIndex();
        List<Integer> side = isBack ? words.subList(0, at) : words.subList(at, words.size());
        if (!new ArrayList<>(side).contains(word)) {
            return refuse(Caretline.NO_ELEMENT);
        }
        keep();
        int steps = 0;
        do {
            given = isBack ? caret.previous() : caret.next();
            steps++;
        } while (given != word);
        by = isBack ? 2 : 1;
        return steps;
    }

    int swap() {
        if (!caret.hasNext() || !caret.hasPrevious()) {
            return refuse(Caretline.NO_ELEMENT);
        }
        keep();
        int behind = caret.previous();
        caret.remove();
        given = caret.next();
        caret.add(behind);
        caret.previous();
        caret.previous();
        caret.next();
        by = 1;
        return given;
    }

    int undo() {
        if (copies.isEmpty()) {
            return Caretline.NONE;
        }
        Copy copy = copies.removeLast();
        words = new LinkedList<>(copy.words());
        stand(copy.caret());
        return copies.size();
    }

    private void replace(List<Integer> others) {
        words = new LinkedList<>(others);
        stand(0);
        copies.clear();
    }

    int clear() {
        int before = words.size();
        replace(List.of());
        return before;
    }

    /** Answers whether the text had no error. */
    boolean fill() {
        String text = tape;
        tape = "";
        errorPosition = Caretline.NONE;
        List<Integer> others = new ArrayList<>();
        int at = 0;
        while (at < text.length()) {
            int end = runEnd(text, at, "abcdefghijklmnopqrstuvwxyz");
            if (end > at) {
                if (end - at > 6 || others.size() == 100) {
                    errorPosition = at;
                    return false;
                }
                others.add(Texts.word(text.substring(at, end)));
                at = end;
            } else if (text.charAt(at) == ' ' || text.charAt(at) == '\n') {
                at++;
            } else {
                errorPosition = at;
                return false;
            }
        }
        replace(others);
        return true;
    }

    private static int runEnd(String text, int from, String signs) {
        int at = from;
        while (at < text.length() && signs.indexOf(text.charAt(at)) >= 0) {
            at++;
        }
        return at;
    }

    /** Answers how many acts were done; NONE if the text had an error. */
    int run() {
        String text = tape;
        tape = "";
        endedBy = OK;
        errorPosition = Caretline.NONE;
        try {
            int end = readScript(text, 0, 0);
            if (end < text.length()) {
                throw new Misfit(end);
            }
        } catch (Misfit misfit) {
            errorPosition = misfit.place;
            return Caretline.NONE;
        }
        left = 300;
        endedBy = perform(text.substring(0, readScript(text, 0, 0)));
        return 300 - left;
    }

    private static int blanksEnd(String text, int from) {
        return runEnd(text, from, " \n");
    }

    /** Answers the place of the first token that is no act: the end of the text, or a "}". */
    private static int readScript(String text, int from, int open) {
        int at = blanksEnd(text, from);
        while (at < text.length() && (text.charAt(at) != '}' || open == 0)) {
            at = blanksEnd(text, readAct(text, at, open));
        }
        return at;
    }

    private static int readAct(String text, int at, int open) {
        char sign = text.charAt(at);
        if (".,-%".indexOf(sign) >= 0) {
            return at + 1;
        }
        if ("+=><".indexOf(sign) >= 0) {
            return readRun(text, blanksEnd(text, at + 1), "abcdefghijklmnopqrstuvwxyz", 6);
        }
        if (sign == '@') {
            return readRun(text, blanksEnd(text, at + 1), "0123456789", 3);
        }
        int brace = at + 1;
        if (sign != '*') {
            brace = readRun(text, at, "0123456789", 3);
            int times = Integer.parseInt(text.substring(at, brace));
            if (times < 1 || times > 20) {
                throw new Misfit(at);
            }
        }
        brace = blanksEnd(text, brace);
        if (brace == text.length() || text.charAt(brace) != '{' || open == 4) {
            throw new Misfit(brace);
        }
        int end = readScript(text, brace + 1, open + 1);
        if (end == text.length()) {
            throw new Misfit(end);
        }
        return end + 1;
    }

    private static int readRun(String text, int at, String signs, int most) {
        int end = runEnd(text, at, signs);
        if (end == at || end - at > most) {
            throw new Misfit(at);
        }
        return end;
    }

    /** Does a text that is known to be a script; answers OK, why an act was refused, or TOO_MANY. */
    private int perform(String text) {
        int at = blanksEnd(text, 0);
        while (at < text.length()) {
            int end = readAct(text, at, 0);
            String act = text.substring(at, end);
            int brace = act.indexOf('{');
            int outcome = brace < 0 ? performOne(act)
                : performLoop(act.substring(0, brace).trim(), act.substring(brace + 1, act.length() - 1));
            if (outcome != OK) {
                return outcome;
            }
            at = blanksEnd(text, end);
        }
        return OK;
    }

    private int performLoop(String head, String body) {
        if (head.equals("*")) {
            int before;
            int outcome;
            do {
                before = left;
                outcome = perform(body);
            } while (outcome == OK && left < before);
            return outcome == Caretline.TOO_MANY ? outcome : OK;
        }
        for (int turn = Integer.parseInt(head); turn > 0; turn--) {
            int outcome = perform(body);
            if (outcome != OK) {
                return outcome;
            }
        }
        return OK;
    }

    private int performOne(String act) {
        if (left == 0) {
            return Caretline.TOO_MANY;
        }
        int answer = tell(act.charAt(0), act.substring(1).trim());
        if (answer < 0) {
            return answer;
        }
        left--;
        return OK;
    }

    private int tell(char sign, String operand) {
        switch (sign) {
            case '.': return next();
            case ',': return previous();
            case '-': return remove();
            case '%': return swap();
            case '+': return add(Texts.word(operand));
            case '=': return set(Texts.word(operand));
            case '>': return find(Texts.word(operand), false);
            case '<': return find(Texts.word(operand), true);
            default: return move(Integer.parseInt(operand));
        }
    }

    String text() {
        StringBuilder text = new StringBuilder();
        int index = 0;
        for (int word : words) {
            boolean isBehind = index < caret.nextIndex();
            if (index == caret.nextIndex()) {
                text.append('|');
            }
            text.append(isBehind ? "" : " ").append(Texts.letters(word)).append(isBehind ? " " : "");
            index++;
        }
        return caret.nextIndex() == words.size() ? text.append('|').toString() : text.toString();
    }

    int refusedNow() {
        int sum = caret.hasNext() ? 0 : 1;
        sum += caret.hasPrevious() ? 0 : 2;
        sum += words.size() == 100 ? 4 : 0;
        sum += by == 0 ? 8 : 0;
        sum += caret.hasNext() && caret.hasPrevious() ? 0 : 16;
        return sum;
    }

    int unlike() {
        return (int) words.stream().distinct().count();
    }

    double meanLetters() {
        int letters = words.stream().mapToInt(word -> Texts.letters(word).length()).sum();
        return words.isEmpty() ? 0.0 : (double) letters / (double) words.size();
    }

    float caretShare() {
        return words.isEmpty() ? 0.0f : (float) caret.nextIndex() / (float) words.size();
    }

    int count(int word) {
        int[] same = words.stream().mapToInt(Integer::intValue).filter(other -> other == word).toArray();
        return Arrays.stream(same).map(other -> 1).sum();
    }
}
