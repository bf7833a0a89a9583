/** The boundary cases that promises 1 and 12 to 14 name: the bytes of the tape, and what fill() takes. */
public final class TapeEdgesTest {
    private static final int BLANKS = 0x20202020;

    public static void main(String[] args) {
        newTape();
        fourBytesOfEach();
        bytesThatAreNought();
        mostBytes();
        moreThanMost();
        moreThanMostByEachByte();
        moreThanMostChangesNothing();
        emptied();
        bytesOnIt();
        anyNumberOfBlanks();
        atLeastOneBlank();
        caretAndGiven();
        inPlaceOfTheLine();
        numberOfWords();
        everyByte();
        sevenLetters();
        hundredAndFirst();
        firstErrorAlongTheText();
        errorEmptiesTheTape();
        Check.finish();
    }

    private static void isError(String text, int place) {
        Caretline line = new Caretline();
        Texts.type(line, text);
        Check.isNoArgument("fill() of \"" + text + "\"", line::fill);
        Check.same("errorPosition() of \"" + text + "\"", line.errorPosition(), place);
        Check.same("size() behind it", line.size(), 0);
        Check.same("the tape behind it", line.clearTape(), 0);
    }

    private static void newTape() {
        Check.sentence("Caretline: Creates an empty line, with an empty tape, nothing to undo and nothing written.");
        Check.same("size()", new Caretline().size(), 0);
        Check.same("fill() of the empty tape", new Caretline().fill(), 0);
        Check.same("run() of the empty tape", new Caretline().run(), 0);
        Check.same("clearTape()", new Caretline().clearTape(), 0);
        Check.same("append() of nothing", new Caretline().append(0, 0, 0, 0, 0), 0);
        Check.same("undoable()", new Caretline().undoable(), 0);
        Check.same("undo()", new Caretline().undo(), Caretline.NONE);
        Check.isNoIndex("writtenAt(0)", () -> new Caretline().writtenAt(0));
    }

    private static void fourBytesOfEach() {
        Check.sentence("append: the four bytes of each parameter, the most significant byte first, in the order of the parameters");
        Caretline line = new Caretline();
        Check.same("append()", line.append(0x61622063, 0x6420650a, 0x66206720, 0x6820696a, 0x6b6c206d), 20);
        line.fill();
        Check.same("the words", Texts.written(line), "| ab cd e f g h ijkl m");
        for (int place = 0; place < 20; place++) {
            int[] fours = new int[5];
            fours[place / 4] = '?' << 24 - place % 4 * 8;
            Caretline other = new Caretline();
            Texts.type(other, "  ");
            Check.same("append() of one byte", other.append(fours[0], fours[1], fours[2], fours[3], fours[4]), 3);
            Check.isNoArgument("fill()", other::fill);
            Check.same("errorPosition()", other.errorPosition(), 2);
        }
    }

    private static void bytesThatAreNought() {
        Check.sentence("append: Bytes that are 0 are left out.");
        Caretline line = new Caretline();
        Check.same("append() of 0", line.append(0, 0, 0, 0, 0), 0);
        Check.same("append() of 0 between", line.append(0x61000062, 0x00630000, 0, 0x00006400, 0x65), 5);
        Check.same("fill()", line.fill(), 1);
        Check.same("they part no word", Texts.written(line), "| abcde");
        Check.same("append() of the greatest bytes", line.append(-1, -1, -1, -1, -1), 20);
        Check.same("append() of the least ones", line.append(0x01010101, 0x00000001, 0x01000000, 0, 1), 27);
        Check.same("append() of a byte of the sign", line.append(Integer.MIN_VALUE, 0, 0, 0, 0), 28);
    }

    private static Caretline typed(int bytes) {
        Caretline line = new Caretline();
        Texts.type(line, Texts.repeat(" ", bytes));
        return line;
    }

    private static void mostBytes() {
        Check.sentence("append: Throws IllegalStateException if the tape would have more than 300 bytes (300 are none too many)");
        Check.same("280 and 20", typed(280).append(BLANKS, BLANKS, BLANKS, BLANKS, BLANKS), 300);
        Check.same("296 and 4", typed(296).append(BLANKS, 0, 0, 0, 0), 300);
        Check.same("296 and 4 apart", typed(296).append(32, 32, 0, 32, 32), 300);
        Check.same("299 and 1", typed(299).append(0, 0, 0, 0, 0x2000), 300);
        Check.same("300 and 0", typed(300).append(0, 0, 0, 0, 0), 300);
        Check.same("fill() of 300", typed(300).fill(), 0);
        Check.same("run() of 300", typed(300).run(), 0);
    }

    private static void moreThanMost() {
        Check.sentence("append: Throws IllegalStateException if the tape would have more than 300 bytes");
        for (int bytes = 281; bytes <= 300; bytes++) {
            Caretline line = typed(bytes);
            isTooMuch(bytes + " and 20", line, BLANKS, BLANKS, BLANKS, BLANKS, BLANKS);
            Check.same("the tape behind it", line.append(0, 0, 0, 0, 0), bytes);
        }
        isTooMuch("300 and 1", typed(300), 32, 0, 0, 0, 0);
        isTooMuch("300 and 1", typed(300), 0, 0, 0, 0, 32);
        isTooMuch("300 and 1", typed(300), 0, 0, Integer.MIN_VALUE, 0, 0);
        isTooMuch("299 and 2", typed(299), 32, 0, 0, 0, 32);
        isTooMuch("296 and 5", typed(296), 32, 32, 32, 32, 32);
    }

    private static void moreThanMostByEachByte() {
        Check.sentence("append: Throws IllegalStateException if the tape would have more than 300 bytes (by one of each byte)");
        Caretline full = typed(300);
        for (int one = 1; one <= 255; one++) {
            Caretline line = typed(299);
            int four = one << one % 4 * 8;
            isTooMuch("300 and " + one, full, four, 0, 0, 0, 0);
            isTooMuch("299 and " + one + " and a blank", line, 0, four, 0, 0, 32);
            Check.same("299 and " + one, line.append(0, 0, four, 0, 0), 300);
        }
    }

    private static void isTooMuch(String what, Caretline line, int a, int b, int c, int d, int e) {
        Check.isThrown(what, IllegalStateException.class, () -> line.append(a, b, c, d, e));
    }

    private static void moreThanMostChangesNothing() {
        Check.sentence("A call that throws an exception changes nothing (the tape behind an append too long)");
        Caretline line = new Caretline();
        Texts.type(line, "+ab" + Texts.repeat(" ", 295));
        String before = Texts.all(line);
        isTooMuch("298 and 3", line, 0x2b620000, 0, 0, 0, 32);
        Check.same("all behind it", Texts.all(line), before);
        Check.same("append() of 2 more", line.append(0x2b, 0x63, 0, 0, 0), 300);
        Check.same("run()", line.run(), 2);
        Check.same("the words", Texts.written(line), "ab c |");
    }

    private static void emptied() {
        Check.sentence("clearTape: Empties the tape.");
        Caretline line = typed(300);
        line.clearTape();
        Check.same("append() behind it", line.append(0x61000000, 0, 0, 0, 0), 1);
        Check.same("fill()", line.fill(), 1);
        Check.same("the only word", Texts.written(line), "| a");
    }

    private static void bytesOnIt() {
        Check.sentence("clearTape: Returns the number of bytes that were on it.");
        for (int bytes : new int[] {0, 1, 19, 20, 21, 299, 300}) {
            Caretline line = typed(bytes);
            Check.same("clearTape()", line.clearTape(), bytes);
            Check.same("clearTape() again", line.clearTape(), 0);
        }
    }

    private static void isFilled(String text, int words, String state) {
        Caretline line = Texts.filled("x y", 1);
        Texts.type(line, text);
        Check.same("fill() of \"" + text + "\"", line.fill(), words);
        Check.same("behind it", Texts.state(line), state);
        Check.same("errorPosition()", line.errorPosition(), Caretline.NONE);
        Check.same("the tape", line.clearTape(), 0);
    }

    private static void anyNumberOfBlanks() {
        Check.sentence("fill: any number of these ahead of the first and behind the last one");
        isFilled("", 0, "|-");
        isFilled(" ", 0, "|-");
        isFilled("\n", 0, "|-");
        isFilled(Texts.repeat("\n ", 150), 0, "|-");
        isFilled("a", 1, "|a -");
        isFilled(" a", 1, "|a -");
        isFilled("a\n", 1, "|a -");
        isFilled(Texts.repeat(" ", 299) + "a", 1, "|a -");
        isFilled("a" + Texts.repeat("\n", 299), 1, "|a -");
        isFilled("\n \n abcdef \n\n ", 1, "|abcdef -");
    }

    private static void atLeastOneBlank() {
        Check.sentence("fill: words, with at least one byte 32 or 10 between two of them");
        isFilled("a b", 2, "|a b -");
        isFilled("a\nb", 2, "|a b -");
        isFilled("a \n\n b", 2, "|a b -");
        isFilled("abcdef ghijkl", 2, "|abcdef ghijkl -");
        isFilled("ab", 1, "|ab -");
        isFilled("a" + Texts.repeat(" ", 298) + "b", 2, "|a b -");
    }

    private static void caretAndGiven() {
        Check.sentence("fill: The caret is ahead of all, none is given, and the tape is empty then.");
        Caretline line = Texts.filled("a b", 0);
        line.next();
        line.next();
        Texts.fill(line, "c d e");
        Check.same("behind it", Texts.state(line), "|c d e -");
        line.next();
        line.previous();
        Texts.fill(line, "");
        Check.same("behind a fill of nothing", Texts.state(line), "|-");
        Check.same("the tape", line.append(0, 0, 0, 0, 0), 0);
    }

    private static void inPlaceOfTheLine() {
        Check.sentence("fill: Puts the words of the tape in place of the line");
        Caretline line = Texts.filled(Texts.repeat("a ", 100), 50);
        Check.same("fill() of 100 in place of 100", Texts.fill(line, Texts.repeat("b ", 100)), 100);
        Check.same("count() of the old ones", line.count(1), 0);
        Check.same("fill() of 1 in place of 100", Texts.fill(line, "c"), 1);
        Check.same("the line", Texts.state(line), "|c -");
        Check.same("add()", line.add(4), 2);
        Check.isTrue("agree()", line.agree());
    }

    private static void numberOfWords() {
        Check.sentence("fill: Returns the number of words.");
        for (int words : new int[] {0, 1, 2, 99, 100}) {
            Caretline line = new Caretline();
            Check.same("fill() of " + words, Texts.fill(line, Texts.repeat("a ", words)), words);
            Check.same("size()", line.size(), words);
        }
    }

    private static void everyByte() {
        Check.sentence("fill: Throws [..]: a byte that is neither a letter nor 32 nor 10");
        for (int one = 1; one <= 255; one++) {
            boolean isLetter = one >= 'a' && one <= 'z';
            char sign = (char) one;
            if (isLetter) {
                isFilled("b" + sign, 1, "|b" + sign + " -");
            } else if (one == ' ' || one == '\n') {
                isFilled("b" + sign, 1, "|b -");
            } else {
                isError(String.valueOf(sign), 0);
                isError("b" + sign, 1);
                isError("bcdefg" + sign + "a", 6);
                isError(" b \n" + sign + sign, 4);
            }
        }
    }

    private static void sevenLetters() {
        Check.sentence("fill: Throws [..]: a word of more than 6 letters");
        isFilled("abcdef", 1, "|abcdef -");
        isFilled("zzzzzz aaaaaa", 2, "|zzzzzz aaaaaa -");
        isError("abcdefg", 0);
        isError("abcdef abcdefg", 7);
        isError("\n\nabcdefgh ", 2);
        isError(Texts.repeat("z", 300), 0);
        isError("a " + Texts.repeat("z", 298), 2);
    }

    private static void hundredAndFirst() {
        Check.sentence("fill: Throws [..]: the 101st word");
        isFilled(Texts.repeat("b ", 100).trim(), 100, "|" + Texts.repeat("b ", 100) + "-");
        isFilled(" " + Texts.repeat("b ", 100) + "\n", 100, "|" + Texts.repeat("b ", 100) + "-");
        isError(Texts.repeat("b ", 100) + "b", 200);
        isError("\n" + Texts.repeat("b  ", 49) + Texts.repeat("b ", 51) + "b", 250);
        isError(Texts.repeat("a", 6) + Texts.repeat("\nb", 100) + "?", 205);
        isError(Texts.repeat("b ", 110), 200);
        isError(Texts.repeat("b ", 100) + "abcdefgh", 200);
    }

    private static void firstErrorAlongTheText() {
        Check.sentence("fill: the first one along the text of these [..]; the error position is its first byte");
        isError("abcdefg ?", 0);
        isError("? abcdefg", 0);
        isError("abcdefg?", 0);
        isError("abc?abcdefg", 3);
        isError("ab ?? abcdefgh", 3);
        isError(Texts.repeat("b ", 99) + "abcdefg b", 198);
        isError(Texts.repeat("b ", 99) + "b? b", 199);
        isError(Texts.repeat("b ", 100) + "? b", 200);
        isError(Texts.repeat("b ", 100) + "b?", 200);
        isError(Texts.repeat("b ", 100) + " \n\n b", 204);
        isError("a 1 " + Texts.repeat("b ", 101), 2);
    }

    private static void errorEmptiesTheTape() {
        Check.sentence("except that run() and fill() empty the tape and set the error position (fill)");
        Caretline line = Texts.filled("a b", 0);
        line.next();
        Check.isNoArgument("fill()", () -> Texts.fill(line, "c d ?"));
        Check.same("the line stays", Texts.state(line), " a|b <a");
        Check.same("undoable()", line.undoable(), 1);
        Check.same("the tape is empty", line.append(0, 0, 0, 0, 0), 0);
        Check.same("errorPosition()", line.errorPosition(), 4);
        Check.same("fill() of the empty tape", line.fill(), 0);
        Check.same("errorPosition() behind it", line.errorPosition(), Caretline.NONE);
    }
}
