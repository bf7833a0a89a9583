/** Promises 10 and 11, and what the Terms say of undo. */
public final class UndoTest {
    public static void main(String[] args) {
        everyAct();
        nothingToUndo();
        givenIsLost();
        actsBehindUndo();
        latestFifty();
        olderOnesStayLost();
        scripts();
        fillAndClear();
        Check.finish();
    }

    private interface Act {
        int tell(Caretline line);
    }

    private static void undone(String what, Caretline line, Act act) {
        String words = Texts.written(line);
        int undoable = line.undoable();
        int acts = line.acts();
        act.tell(line);
        Check.same("undoable() behind " + what, line.undoable(), undoable + 1);
        Check.same("undo() of " + what, line.undo(), undoable);
        Check.same("the line behind the undo of " + what, Texts.written(line), words);
        Check.same("given behind the undo of " + what, line.givenBy(), 0);
        Check.same("undoable() behind the undo of " + what, line.undoable(), undoable);
        Check.same("acts() behind the undo of " + what, line.acts(), acts + 1);
    }

    private static Caretline passed(boolean isBack) {
        Caretline line = Texts.filled("a b c d", 2);
        if (isBack) {
            line.previous();
        } else {
            line.next();
        }
        return line;
    }

    private static void everyAct() {
        undone("next", Texts.filled("a b c", 1), Caretline::next);
        undone("previous", Texts.filled("a b c", 1), Caretline::previous);
        undone("add", Texts.filled("a b c", 1), line -> line.add(9));
        undone("add at the end", Texts.filled("a b c", 3), line -> line.add(9));
        undone("add without words", new Caretline(), line -> line.add(9));
        undone("set behind a next", passed(false), line -> line.set(9));
        undone("set behind a previous", passed(true), line -> line.set(9));
        undone("remove behind a next", passed(false), Caretline::remove);
        undone("remove behind a previous", passed(true), Caretline::remove);
        undone("move", Texts.filled("a b c", 1), line -> line.move(3));
        undone("move back", Texts.filled("a b c", 3), line -> line.move(0));
        undone("move to the same index", Texts.filled("a b c", 3), line -> line.move(3));
        undone("find", Texts.filled("a b c d", 1), line -> line.find(4, false));
        undone("find back", Texts.filled("a b c d", 4), line -> line.find(2, true));
        undone("swap", Texts.filled("a b c", 1), Caretline::swap);
    }

    private static void nothingToUndo() {
        Caretline line = new Caretline();
        Check.same("undo() of a new object", line.undo(), Caretline.NONE);
        Check.same("undoable() of a new object", line.undoable(), 0);
        line.next();
        line.remove();
        line.move(5);
        Check.same("refused acts cannot be undone", line.undoable(), 0);
        Check.same("undo() behind refused acts", line.undo(), Caretline.NONE);
        Check.same("an undo is no refusal", line.refusals(Caretline.NO_ELEMENT), 1);
        Check.same("an undo is no act", line.acts(), 0);
    }

    private static void givenIsLost() {
        Caretline line = Texts.filled("a b c", 0);
        line.next();
        line.next();
        Check.same("undo()", line.undo(), 1);
        Check.same("none is given behind an undo", Texts.state(line), " a|b c -");
        Check.same("given()", line.given(), Caretline.NONE);
        Check.same("set() behind an undo", line.set(5), Caretline.NO_STATE);
    }

    private static void actsBehindUndo() {
        Caretline line = new Caretline();
        line.add(1);
        line.add(2);
        line.undo();
        line.add(3);
        line.previous();
        line.set(4);
        Check.same("undoable()", line.undoable(), 4);
        Check.same("undo the set", line.undo(), 3);
        Check.same("behind it", Texts.state(line), " a|c -");
        Check.same("undo the previous", line.undo(), 2);
        Check.same("undo the second add", line.undo(), 1);
        Check.same("behind it", Texts.state(line), " a|-");
        Check.same("undo the first add", line.undo(), 0);
        Check.same("nothing is left", line.undo(), Caretline.NONE);
        Check.same("all were acts", line.acts(), 5);
    }

    private static void latestFifty() {
        Caretline line = new Caretline();
        for (int i = 0; i < 60; i++) {
            line.add(i % 26 + 1);
            Check.same("undoable() behind " + (i + 1), line.undoable(), Math.min(i + 1, 50));
        }
        for (int left = 49; left >= 0; left--) {
            Check.same("undo() with " + left + " left", line.undo(), left);
        }
        Check.same("the words that stay", line.size(), 10);
        Check.same("undo() of the 51st", line.undo(), Caretline.NONE);
        Check.same("leaves the words", line.size(), 10);
    }

    private static void olderOnesStayLost() {
        Caretline line = new Caretline();
        for (int i = 0; i < 51; i++) {
            line.add(1);
        }
        for (int i = 0; i < 10; i++) {
            line.undo();
        }
        Check.same("undoable() behind 10 undos", line.undoable(), 40);
        for (int i = 0; i < 5; i++) {
            line.add(2);
        }
        Check.same("undoable() behind 5 acts more", line.undoable(), 45);
        for (int left = 44; left >= 0; left--) {
            Check.same("undo()", line.undo(), left);
        }
        Check.same("undo() of the lost one", line.undo(), Caretline.NONE);
        Check.same("its word stays", line.size(), 1);
    }

    private static void scripts() {
        Caretline line = Texts.filled("a b c", 0);
        Check.same("run()", Texts.run(line, ". =x 2{+y} , - @0 *{.}"), 11);
        Check.same("each act of a script by itself", line.undoable(), 11);
        Check.same("behind the script", Texts.state(line), " x y b c|<c");
        undo(line, 5);
        Check.same("behind 5 undos", Texts.state(line), " x y|b c -");
        undo(line, 1);
        Check.same("behind 6 undos", Texts.state(line), " x y|y b c -");
        undo(line, 3);
        Check.same("behind 9 undos", Texts.state(line), " x|b c -");
        undo(line, 1);
        Check.same("behind 10 undos", Texts.state(line), " a|b c -");
        Check.same("the last one", line.undo(), 0);
        Check.same("all as at first", Texts.state(line), "|a b c -");
        Check.same("a run that is refused", Texts.run(line, "..,,,"), 4);
        Check.same("undo() of what it did", line.undo(), 3);
        Check.same("behind it", Texts.state(line), " a|b c -");
    }

    private static void undo(Caretline line, int times) {
        for (int i = 0; i < times; i++) {
            line.undo();
        }
    }

    private static void fillAndClear() {
        Caretline line = Texts.filled("a b", 1);
        Check.same("clear()", line.clear(), 2);
        Check.same("undo() behind a clear", line.undo(), Caretline.NONE);
        line.add(1);
        Check.same("undoable()", line.undoable(), 1);
        Texts.fill(line, "c d");
        Check.same("undoable() behind a fill", line.undoable(), 0);
        Check.same("undo() behind a fill", line.undo(), Caretline.NONE);
        Check.same("the words stay", Texts.state(line), "|c d -");
        line.next();
        Check.isNoArgument("a fill with an error", () -> Texts.fill(line, "1"));
        Check.same("which leaves what can be undone", line.undoable(), 1);
        Check.same("undo()", line.undo(), 0);
    }
}
