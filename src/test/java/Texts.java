/** Puts texts into a Caretline and reads its state back as texts. */
final class Texts {
    private Texts() {
    }

    static int word(String letters) {
        int number = 0;
        for (int i = 0; i < letters.length(); i++) {
            number = number * 27 + letters.charAt(i) - 'a' + 1;
        }
        return number;
    }

    static String letters(int word) {
        StringBuilder text = new StringBuilder();
        for (int rest = word; rest > 0; rest /= 27) {
            text.append((char) ('a' + rest % 27 - 1));
        }
        return text.reverse().toString();
    }

    /** Appends a text to the tape, 20 bytes a call. */
    static int type(Caretline line, String text) {
        int length = line.append(0, 0, 0, 0, 0);
        for (int at = 0; at < text.length(); at += 20) {
            length = append(line, text, at);
        }
        return length;
    }

    /** Appends at most 20 bytes of a text, by one call. */
    static int append(Caretline line, String text, int at) {
        return line.append(four(text, at), four(text, at + 4), four(text, at + 8), four(text, at + 12),
                four(text, at + 16));
    }

    private static int four(String text, int from) {
        int value = 0;
        for (int i = from; i < from + 4; i++) {
            value = value << 8 | (i < text.length() ? text.charAt(i) & 255 : 0);
        }
        return value;
    }

    static int run(Caretline line, String script) {
        type(line, script);
        return line.run();
    }

    static int fill(Caretline line, String words) {
        type(line, words);
        return line.fill();
    }

    /** A new object with these words, the caret at an index and none given. */
    static Caretline filled(String words, int caret) {
        Caretline line = new Caretline();
        fill(line, words);
        if (caret != 0) {
            line.move(caret);
        }
        return line;
    }

    /** These words with the caret at an index, and the word there given by nothing (0), a next (1) or a previous (2). */
    static Caretline at(String words, int caret, int by) {
        Caretline line = new Caretline();
        line.write();
        Texts.fill(line, words);
        line.move(by == 0 ? caret : by == 1 ? caret - 1 : caret + 1);
        if (by == 1) {
            line.next();
        } else if (by == 2) {
            line.previous();
        }
        return line;
    }

    static String written(Caretline line) {
        int length = line.write();
        StringBuilder text = new StringBuilder();
        for (int i = 0; i < length; i++) {
            text.append((char) line.writtenAt(i));
        }
        return text.toString();
    }

    /** The line, the caret and the word given latest: "a b| c" and behind it "<b" or ">c" or "-". */
    static String state(Caretline line) {
        StringBuilder text = new StringBuilder();
        // Asked once: an object is used for at most 512 calls.
        int size = line.size();
        int caret = line.nextIndex();
        for (int i = 0; i < size; i++) {
            text.append(i == caret ? "|" : " ").append(letters(line.wordAt(i)));
        }
        text.append(caret == size ? "|" : " ");
        switch (line.givenBy()) {
            case 0: return text.append("-").toString();
            case 1: return text.append("<").append(letters(line.given())).toString();
            default: return text.append(">").append(letters(line.given())).toString();
        }
    }

    /** All that an object tells of itself without being changed, but for the counts of refusals. */
    static String all(Caretline line) {
        StringBuilder text = new StringBuilder(state(line));
        text.append(" now ").append(line.refusedNow()).append(" undoable ").append(line.undoable());
        text.append(" acts ").append(line.acts()).append(" tape ").append(line.append(0, 0, 0, 0, 0));
        text.append(" error ").append(line.errorPosition()).append(" ended ").append(line.endedBy());
        return text.append(" written \"").append(writtenBefore(line)).append('"').toString();
    }

    /** The text of the latest write(), as far as writtenAt() tells it. */
    static String writtenBefore(Caretline line) {
        StringBuilder text = new StringBuilder();
        try {
            for (int i = 0; i < 1000; i++) {
                text.append((char) line.writtenAt(i));
            }
        } catch (IndexOutOfBoundsException e) {
            return text.toString();
        }
        return text.append("..").toString();
    }

    /** How often acts were refused by NO_ELEMENT, NO_STATE, NO_INDEX and FULL. */
    static String refusals(Caretline line) {
        return line.refusals(Caretline.NO_ELEMENT) + " " + line.refusals(Caretline.NO_STATE) + " "
            + line.refusals(Caretline.NO_INDEX) + " " + line.refusals(Caretline.FULL);
    }

    /** What refusals() tells if acts were refused so many times, by this reason alone. */
    static String counted(int kind, int times) {
        StringBuilder text = new StringBuilder();
        for (int other = Caretline.NO_ELEMENT; other >= Caretline.FULL; other--) {
            text.append(other == kind ? times : 0).append(other == Caretline.FULL ? "" : " ");
        }
        return text.toString();
    }

    static String repeat(String part, int times) {
        StringBuilder text = new StringBuilder();
        for (int i = 0; i < times; i++) {
            text.append(part);
        }
        return text.toString();
    }
}
