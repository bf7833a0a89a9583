/** Promises 12 to 14, and 16 as far as fill() sets it: the tape and what fill() makes of it. */
public final class TapeTest {
    public static void main(String[] args) {
        appending();
        fullTape();
        clearing();
        filling();
        fillingLeavesTheRest();
        fillErrors();
        hundredWords();
        Check.finish();
    }

    private static void appending() {
        Caretline line = new Caretline();
        Check.same("append of zeros", line.append(0, 0, 0, 0, 0), 0);
        Check.same("append of 20 bytes", line.append(0x61206220, 0x63206420, 0x65206620, 0x67206820, 0x69206a20), 20);
        Check.same("append of one in each place", line.append(0x6b000000, 0x00200000, 0x00006c00, 0x00000020, 0x6d), 25);
        Check.same("fill()", line.fill(), 13);
        Check.same("the order of the bytes", Texts.written(line), "| a b c d e f g h i j k l m");
        line.append(0x61006200, 0, 0, 0x00630064, 0);
        Check.same("fill()", line.fill(), 1);
        Check.same("zeros are left out", Texts.written(line), "| abcd");
        Check.same("bytes above 127", line.append(-1, 0x80808080, 0, 0, 0), 8);
        Check.isNoArgument("are no signs", line::fill);
        Check.same("at 0", line.errorPosition(), 0);
    }

    private static void fullTape() {
        Caretline line = new Caretline();
        for (int i = 1; i <= 14; i++) {
            Check.same("append", line.append(0x20202020, 0x20202020, 0x20202020, 0x20202020, 0x20202020), 20 * i);
        }
        Check.same("append of 16", line.append(0x20202020, 0x20202020, 0, 0x20202020, 0x20202020), 296);
        Check.isThrown("append of 5 to 296", IllegalStateException.class, () -> line.append(0x20202020, 0, 0, 0, 0x61));
        Check.same("changes nothing", line.append(0, 0, 0, 0, 0), 296);
        Check.same("append of the last 4", line.append(0x20000000, 0x00200000, 0x00002000, 0x00000020, 0), 300);
        Check.isThrown("append to a full tape", IllegalStateException.class, () -> line.append(0, 0, 0, 0, 0x61));
        Check.isThrown("append to a full tape", IllegalStateException.class, () -> line.append(0x61000000, 0, 0, 0, 0));
        Check.same("append of nothing to a full tape", line.append(0, 0, 0, 0, 0), 300);
        Check.same("fill() of blanks", line.fill(), 0);
        Check.same("the tape is empty", line.clearTape(), 0);
    }

    private static void clearing() {
        Caretline line = new Caretline();
        Check.same("clearTape() of a new object", line.clearTape(), 0);
        Texts.type(line, "a b");
        Check.same("clearTape()", line.clearTape(), 3);
        Check.same("clearTape() again", line.clearTape(), 0);
        Texts.type(line, "c");
        Check.same("fill()", line.fill(), 1);
        Check.same("nothing of the old text", Texts.written(line), "| c");
        Check.isNoArgument("run()", () -> Texts.run(line, " ?"));
        Check.same("clearTape() behind a run with an error", line.clearTape(), 0);
        Check.same("which leaves the error position", line.errorPosition(), 1);
    }

    private static void filling() {
        Caretline line = new Caretline();
        Check.same("fill()", Texts.fill(line, "ab c zzzzzz"), 3);
        Check.same("the words", Texts.state(line), "|ab c zzzzzz -");
        Check.same("errorPosition()", line.errorPosition(), Caretline.NONE);
        line.next();
        Check.same("fill() with many blanks", Texts.fill(line, " \n d\n\ne  f \n"), 3);
        Check.same("in place of the line, none given", Texts.state(line), "|d e f -");
        line.move(3);
        Check.same("fill() of nothing", line.fill(), 0);
        Check.same("no words", Texts.state(line), "|-");
        Check.same("fill() is no act", line.acts(), 2);
        Check.same("nothing can be undone", line.undoable(), 0);
    }

    private static void fillingLeavesTheRest() {
        Caretline line = Texts.filled("a b", 0);
        line.next();
        line.move(9);
        Texts.run(line, "*{.} .");
        Check.same("endedBy()", line.endedBy(), Caretline.NO_ELEMENT);
        Texts.written(line);
        Texts.fill(line, "c");
        Check.same("endedBy() is of the latest run", line.endedBy(), Caretline.NO_ELEMENT);
        Check.same("refusals stay", line.refusals(Caretline.NO_INDEX), 1);
        Check.same("refusals stay", line.refusals(Caretline.NO_ELEMENT), 2);
        Check.same("acts stay", line.acts(), 2);
        Check.same("the text stays", line.writtenAt(0), 'a');
    }

    private static void isFillError(String text, int place) {
        Caretline line = Texts.filled("x y", 1);
        line.next();
        line.set(3);
        Texts.type(line, text);
        Check.isNoArgument("fill() of \"" + text + "\"", line::fill);
        Check.same("errorPosition() of \"" + text + "\"", line.errorPosition(), place);
        Check.same("an error leaves the line", Texts.state(line), " x c|<c");
        Check.same("and what can be undone", line.undoable(), 3);
        Check.same("and empties the tape", line.clearTape(), 0);
        Check.same("a fill behind it", Texts.fill(line, "a"), 1);
        Check.same("errorPosition() behind it", line.errorPosition(), Caretline.NONE);
    }

    private static void fillErrors() {
        isFillError("abcdefg", 0);
        isFillError("a bcdefgh", 2);
        isFillError("ab1cd", 2);
        isFillError("abc12345", 3);
        isFillError("1", 0);
        isFillError("a b.", 3);
        isFillError("abcdefg1", 0);
        isFillError("1abcdefg", 0);
        isFillError("a\tb", 1);
        isFillError("a\rb", 1);
        isFillError("A", 0);
        isFillError("a `", 2);
        isFillError("a {", 2);
        isFillError("a \u00e9", 2);
        isFillError("a \u00ff", 2);
        isFillError("a \u0001", 2);
        isFillError("a \u0003\u0003", 2);
        isFillError("  \n+a", 3);
        isFillError("abcdef ghijkl mnopqrs tuvwxyz 1", 14);
        isFillError(Texts.repeat("a", 300), 0);
    }

    private static void hundredWords() {
        Caretline line = new Caretline();
        Check.same("fill() of 100 words", Texts.fill(line, Texts.repeat("ab ", 100)), 100);
        Check.same("size()", line.size(), 100);
        Check.isNoArgument("fill() of 101 words", () -> Texts.fill(line, Texts.repeat("a ", 101)));
        Check.same("the 101st", line.errorPosition(), 200);
        Check.isNoArgument("fill() of 102 words", () -> Texts.fill(line, "  " + Texts.repeat("a ", 102)));
        Check.same("the 101st", line.errorPosition(), 202);
        Check.isNoArgument("an error ahead of the 101st", () -> Texts.fill(line, Texts.repeat("a ", 99) + "? b c"));
        Check.same("is the first", line.errorPosition(), 198);
        Check.isNoArgument("the 101st is too long", () -> Texts.fill(line, Texts.repeat("a ", 100) + "abcdefgh"));
        Check.same("at its first byte", line.errorPosition(), 200);
        Check.isNoArgument("a sign behind 100", () -> Texts.fill(line, Texts.repeat("a ", 100) + "? b"));
        Check.same("is ahead of the 101st", line.errorPosition(), 200);
        Check.same("the 100 words stay", line.count(29), 100);
    }
}
