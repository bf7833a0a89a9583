/** Puts texts into a Caretline and reads its state back as texts. */
final class Texts {
    private Texts() {
    }

    static int word(String letters) {
        int number = 0;
        for (int i = 0; i < letters.length(); i++) {
            number = number * 27 + letters.charAt(i) - 'a' + 1;
        }
        return number;
    }

    static String letters(int word) {
        StringBuilder text = new StringBuilder();
        for (int rest = word; rest > 0; rest /= 27) {
            text.append((char) ('a' + rest % 27 - 1));
        }
        return text.reverse().toString();
    }

    /** Appends a text to the tape, 20 bytes a call. */
    static int type(Caretline line, String text) {
        int length = line.append(0, 0, 0, 0, 0);
        for (int at = 0; at < text.length(); at += 20) {
            length = line.append(four(text, at), four(text, at + 4), four(text, at + 8), four(text, at + 12),
                    four(text, at + 16));
        }
        return length;
    }

    private static int four(String text, int from) {
        int value = 0;
        for (int i = from; i < from + 4; i++) {
            value = value << 8 | (i < text.length() ? text.charAt(i) & 255 : 0);
        }
        return value;
    }

    static int run(Caretline line, String script) {
        type(line, script);
        return line.run();
    }

    static int fill(Caretline line, String words) {
        type(line, words);
        return line.fill();
    }

    /** A new object with these words, the caret at an index and none given. */
    static Caretline filled(String words, int caret) {
        Caretline line = new Caretline();
        fill(line, words);
        if (caret != 0) {
            line.move(caret);
        }
        return line;
    }

    static String written(Caretline line) {
        int length = line.write();
        StringBuilder text = new StringBuilder();
        for (int i = 0; i < length; i++) {
            text.append((char) line.writtenAt(i));
        }
        return text.toString();
    }

    /** The line, the caret and the word given latest: "a b| c" and behind it "<b" or ">c" or "-". */
    static String state(Caretline line) {
        StringBuilder text = new StringBuilder();
        for (int i = 0; i < line.size(); i++) {
            text.append(i == line.nextIndex() ? "|" : " ").append(letters(line.wordAt(i)));
        }
        text.append(line.nextIndex() == line.size() ? "|" : " ");
        switch (line.givenBy()) {
            case 0: return text.append("-").toString();
            case 1: return text.append("<").append(letters(line.given())).toString();
            default: return text.append(">").append(letters(line.given())).toString();
        }
    }

    static String repeat(String part, int times) {
        StringBuilder text = new StringBuilder();
        for (int i = 0; i < times; i++) {
            text.append(part);
        }
        return text.toString();
    }
}
