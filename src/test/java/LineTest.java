/** Promises 1 and 27 to 35: a new object, and what is told of the line as a whole. */
public final class LineTest {
    public static void main(String[] args) {
        newObject();
        wordAt();
        searching();
        unlike();
        clearing();
        writing();
        writtenStays();
        fullLine();
        Check.finish();
    }

    private static void newObject() {
        Caretline line = new Caretline();
        Check.same("size()", line.size(), 0);
        Check.same("the tape", line.clearTape(), 0);
        Check.same("undo()", line.undo(), Caretline.NONE);
        Check.isNoIndex("nothing is written", () -> line.writtenAt(0));
        Check.same("given()", line.given(), Caretline.NONE);
        Check.same("acts()", line.acts(), 0);
        for (int kind = Caretline.FULL; kind <= Caretline.NO_ELEMENT; kind++) {
            Check.same("refusals(" + kind + ")", line.refusals(kind), 0);
        }
        Caretline other = new Caretline();
        line.add(1);
        Check.same("another object has its own line", other.size(), 0);
    }

    private static void wordAt() {
        Caretline line = Texts.filled("a bb ccc", 1);
        Check.same("size()", line.size(), 3);
        for (int caret = 0; caret <= 3; caret++) {
            line.move(caret);
            Check.same("wordAt(0)", line.wordAt(0), 1);
            Check.same("wordAt(1)", line.wordAt(1), 56);
            Check.same("wordAt(2)", line.wordAt(2), Texts.word("ccc"));
            Check.isNoIndex("wordAt(3)", () -> line.wordAt(3));
            Check.isNoIndex("wordAt(-1)", () -> line.wordAt(-1));
        }
        Check.isNoIndex("wordAt(the greatest)", () -> line.wordAt(Integer.MAX_VALUE));
        Check.isNoIndex("wordAt(the least)", () -> line.wordAt(Integer.MIN_VALUE));
        Check.isNoIndex("wordAt(0) without words", () -> new Caretline().wordAt(0));
        line.previous();
        Check.same("wordAt changes nothing", line.wordAt(0), 1);
        Check.same("it is still given", line.givenBy(), 2);
    }

    private static void searching() {
        Caretline line = Texts.filled("b a b c a", 3);
        Check.same("indexOf(a)", line.indexOf(1), 1);
        Check.same("indexOf(b)", line.indexOf(2), 0);
        Check.same("indexOf(c)", line.indexOf(3), 3);
        Check.same("indexOf(d)", line.indexOf(4), Caretline.NONE);
        Check.same("lastIndexOf(a)", line.lastIndexOf(1), 4);
        Check.same("lastIndexOf(b)", line.lastIndexOf(2), 2);
        Check.same("lastIndexOf(c)", line.lastIndexOf(3), 3);
        Check.same("lastIndexOf(d)", line.lastIndexOf(4), Caretline.NONE);
        Check.same("count(a)", line.count(1), 2);
        Check.same("count(c)", line.count(3), 1);
        Check.same("count(d)", line.count(4), 0);
        Check.same("indexOf without words", new Caretline().indexOf(1), Caretline.NONE);
        Check.same("lastIndexOf without words", new Caretline().lastIndexOf(1), Caretline.NONE);
        Check.same("count without words", new Caretline().count(1), 0);
        for (int number : new int[] {0, 27, 54, -1, 387420489, 14348907, Integer.MIN_VALUE, Integer.MAX_VALUE}) {
            Check.isNoArgument("indexOf(" + number + ")", () -> line.indexOf(number));
            Check.isNoArgument("lastIndexOf(" + number + ")", () -> line.lastIndexOf(number));
            Check.isNoArgument("count(" + number + ")", () -> line.count(number));
            Check.isNoArgument("indexOf without words", () -> new Caretline().indexOf(number));
            Check.isNoArgument("count without words", () -> new Caretline().count(number));
        }
        Check.same("searching is no act", line.acts(), 1);
        Check.same("searching moves nothing", line.nextIndex(), 3);
    }

    private static void unlike() {
        Check.same("unlike() without words", new Caretline().unlike(), 0);
        Check.same("unlike() of one", Texts.filled("a", 0).unlike(), 1);
        Check.same("unlike() of like ones", Texts.filled("a a a", 1).unlike(), 1);
        Check.same("unlike() of unlike ones", Texts.filled("a b aa", 2).unlike(), 3);
        Check.same("unlike() of both", Texts.filled("a b a c b a", 4).unlike(), 3);
    }

    private static void clearing() {
        Caretline line = Texts.filled("a b c", 2);
        line.next();
        line.move(9);
        Texts.type(line, "d e");
        Check.same("clear()", line.clear(), 3);
        Check.same("nothing is left", Texts.state(line), "|-");
        Check.same("clear() again", line.clear(), 0);
        Check.same("nothing to undo", line.undoable(), 0);
        Check.same("the tape stays", line.append(0, 0, 0, 0, 0), 3);
        Check.same("acts stay", line.acts(), 2);
        Check.same("refusals stay", line.refusals(Caretline.NO_INDEX), 1);
        Check.same("add() behind a clear", line.add(5), 1);
        Check.same("behind it", Texts.state(line), " e|-");
    }

    private static void isWritten(Caretline line, String due) {
        Check.same("write()", line.write(), due.length());
        Check.same("the text", Texts.written(line), due);
        Check.isNoIndex("the sign behind the text", () -> line.writtenAt(due.length()));
        Check.isNoIndex("writtenAt(-1)", () -> line.writtenAt(-1));
    }

    private static void writing() {
        isWritten(new Caretline(), "|");
        isWritten(Texts.filled("ab c def", 0), "| ab c def");
        isWritten(Texts.filled("ab c def", 1), "ab | c def");
        isWritten(Texts.filled("ab c def", 3), "ab c def |");
        isWritten(Texts.filled("abcdef zzzzzz z az", 2), "abcdef zzzzzz | z az");
        Caretline line = Texts.filled("abcdef abc", 1);
        line.write();
        line.remove();
        line.next();
        line.remove();
        isWritten(line, "abcdef |");
        line.clear();
        isWritten(line, "|");
        Check.isNoIndex("a sign of the text before", () -> line.writtenAt(1));
        Check.isNoIndex("writtenAt(the greatest)", () -> line.writtenAt(Integer.MAX_VALUE));
        Check.isNoIndex("writtenAt(the least)", () -> line.writtenAt(Integer.MIN_VALUE));
    }

    private static void writtenStays() {
        Caretline line = Texts.filled("a b", 1);
        line.write();
        line.next();
        line.set(5);
        line.clear();
        Texts.fill(line, "x y z");
        Check.same("the text is of the write()", line.writtenAt(0), 'a');
        Check.same("a space", line.writtenAt(1), ' ');
        Check.same("the bar", line.writtenAt(2), '|');
        Check.same("a space", line.writtenAt(3), ' ');
        Check.same("the last sign", line.writtenAt(4), 'b');
        Check.isNoIndex("the sign behind it", () -> line.writtenAt(5));
    }

    private static void fullLine() {
        Caretline line = new Caretline();
        Texts.run(line, "20{5{+zyxwvu}}");
        Check.same("write() of the greatest text", line.write(), 701);
        Check.same("its last sign", line.writtenAt(700), '|');
        Check.isNoIndex("the sign behind it", () -> line.writtenAt(701));
        line.move(50);
        Check.same("write() of the greatest text", line.write(), 701);
        Check.same("its last sign", line.writtenAt(700), 'u');
        Check.same("the bar", line.writtenAt(350), '|');
        Check.same("count()", line.count(Texts.word("zyxwvu")), 100);
        Check.same("unlike()", line.unlike(), 1);
        Check.same("clear()", line.clear(), 100);
    }
}
