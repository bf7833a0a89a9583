import java.util.ArrayDeque;
import java.util.Deque;

/** The boundary cases that Term 4 and promises 10 and 11 name: the latest 50 acts, and what cannot be undone. */
public final class UndoEdgesTest {
    private interface Act {
        int tell(Caretline line);
    }

    public static void main(String[] args) {
        latestFifty();
        manyTimesFifty();
        oneOlderThanThese();
        oneThatIsNotOlder();
        oneOlderWithinAScript();
        notUndoneSince();
        eachByItself();
        refusedOnes();
        asTheyWere();
        asTheyWereInFullLine();
        asTheyWereInOneWord();
        noneIsGiven();
        behindFill();
        behindFillWithAnError();
        behindClear();
        stillToUndo();
        nothingIsDifferent();
        undoable();
        Check.finish();
    }

    private static void adds(Caretline line, int times) {
        for (int i = 0; i < times; i++) {
            line.add(i % 26 + 1);
        }
    }

    private static void undos(Caretline line, int times, int left) {
        for (int i = 1; i <= times; i++) {
            Check.same("undo() " + i + " of " + times, line.undo(), left + times - i);
        }
    }

    private static void latestFifty() {
        Check.sentence("The latest 50 acts that were done [..] can be undone, the latest first");
        for (int acts : new int[] {0, 1, 2, 48, 49, 50, 51, 52, 99, 100}) {
            Caretline line = new Caretline();
            adds(line, acts);
            int undone = Math.min(acts, 50);
            Check.same("undoable() behind " + acts, line.undoable(), undone);
            for (int left = undone - 1; left >= 0; left--) {
                Check.same("undo() behind " + acts, line.undo(), left);
                Check.same("size() behind it", line.size(), acts - undone + left);
            }
            Check.same("one undo() more behind " + acts, line.undo(), Caretline.NONE);
            Check.same("size() behind it", line.size(), acts - undone);
        }
    }

    private static void manyTimesFifty() {
        Check.sentence("The latest 50 acts that were done and not undone since (by turns, again and again)");
        Caretline line = Texts.filled(Texts.repeat("a ", 100), 0);
        Deque<Integer> carets = new ArrayDeque<>();
        int caret = 0;
        for (int turn = 0; turn < 10; turn++) {
            for (int act = turn * 7 % 23 + 6; act > 0; act--) {
                carets.addLast(caret);
                caret = (caret + 37) % 101;
                Check.same("move() in turn " + turn, line.move(caret), caret);
                if (carets.size() > 50) {
                    carets.removeFirst();
                }
            }
            caret = undone(line, carets, turn * 5 % 17, caret);
        }
        undone(line, carets, 50, caret);
        Check.same("one undo() more", line.undo(), Caretline.NONE);
    }

    /** Undoes moves of these carets, the latest first; answers the caret behind them. */
    private static int undone(Caretline line, Deque<Integer> carets, int times, int from) {
        int caret = from;
        for (int undo = 0; undo < times && !carets.isEmpty(); undo++) {
            caret = carets.removeLast();
            Check.same("undo() with some left", line.undo(), carets.size());
            Check.same("nextIndex() behind it", line.nextIndex(), caret);
        }
        return caret;
    }

    private static void oneOlderThanThese() {
        Check.sentence("(one that is older than these when an act is done cannot be undone any more, also when later ones are undone)");
        Caretline line = new Caretline();
        adds(line, 51);
        undos(line, 1, 49);
        undos(line, 49, 0);
        Check.same("undo() of the first of 51", line.undo(), Caretline.NONE);
        Check.same("its word stays", Texts.state(line), " a|-");
        adds(line, 2);
        undos(line, 2, 0);
        Check.same("undo() of it behind two others", line.undo(), Caretline.NONE);
        Caretline other = new Caretline();
        adds(other, 60);
        undos(other, 20, 30);
        adds(other, 5);
        undos(other, 35, 0);
        Check.same("undo() of the tenth of 60", other.undo(), Caretline.NONE);
        Check.same("ten words stay", other.size(), 10);
    }

    private static void oneThatIsNotOlder() {
        Check.sentence("(one that is older than these when an act is done cannot be undone any more: the 50th latest can)");
        Caretline line = new Caretline();
        adds(line, 50);
        undos(line, 1, 49);
        adds(line, 1);
        undos(line, 50, 0);
        Check.same("size() behind all", line.size(), 0);
        adds(line, 50);
        undos(line, 50, 0);
        adds(line, 50);
        undos(line, 25, 25);
        adds(line, 25);
        undos(line, 50, 0);
        Check.same("size() behind all", line.size(), 0);
        Check.same("undo() behind all", line.undo(), Caretline.NONE);
    }

    private static void oneOlderWithinAScript() {
        Check.sentence("The latest 50 acts [..], each by itself, also those of scripts");
        Caretline line = new Caretline();
        Texts.run(line, "+a 20{+b} 20{+c} 10{+d}");
        Check.same("undoable() behind a script of 51", line.undoable(), 50);
        undos(line, 50, 0);
        Check.same("undo() of its first act", line.undo(), Caretline.NONE);
        Check.same("its word stays", Texts.state(line), " a|-");
        Texts.run(line, "*{@0}");
        Check.same("undoable() behind a script of 300", line.undoable(), 50);
        undos(line, 50, 0);
        Check.same("undo() of the 51st latest", line.undo(), Caretline.NONE);
    }

    private static void notUndoneSince() {
        Check.sentence("acts that were done and not undone since");
        Caretline line = new Caretline();
        line.add(1);
        line.add(2);
        Check.same("undo() of the second", line.undo(), 1);
        Check.same("undo() of the first", line.undo(), 0);
        Check.same("undo() of none", line.undo(), Caretline.NONE);
        line.add(3);
        Check.same("undo() of the third", line.undo(), 0);
        Check.same("nothing is left", Texts.state(line), "|-");
        Check.same("no undo is undone", line.undo(), Caretline.NONE);
    }

    private static void eachByItself() {
        Check.sentence("each by itself, also those of scripts");
        Caretline line = Texts.filled("a b a", 0);
        Check.same("run()", Texts.run(line, ">b=c+d"), 3);
        undos(line, 1, 2);
        Check.same("behind the undo of the add", Texts.state(line), " a c|a -");
        undos(line, 1, 1);
        Check.same("behind the undo of the set", Texts.state(line), " a b|a -");
        undos(line, 1, 0);
        Check.same("a find is one act", Texts.state(line), "|a b a -");
        Texts.run(line, "*{.}");
        Check.same("the acts of a * are three", line.undoable(), 3);
        line.undo();
        Check.same("behind the undo of the last", Texts.state(line), " a b|a -");
    }

    private static void refusedOnes() {
        Check.sentence("The latest 50 acts that were done (refused ones are none of them)");
        Caretline line = new Caretline();
        adds(line, 50);
        for (int i = 0; i < 60; i++) {
            line.next();
            line.remove();
            line.move(-1);
        }
        Texts.run(line, "20{*{.}*{-}}>z");
        Check.same("undoable() behind them", line.undoable(), 50);
        undos(line, 50, 0);
        Check.same("size()", line.size(), 0);
    }

    /** If the act is done, an undo brings back the words and the caret, and none is given. */
    private static void isBack(String what, Caretline line, Act act) {
        String words = withoutGiven(line);
        int before = line.undoable();
        int answer = act.tell(line);
        if (line.undoable() == before) {
            Check.isTrue(what + " was refused", answer < 0);
            return;
        }
        Check.same("undo() of " + what, line.undo(), before);
        Check.same("behind the undo of " + what, Texts.state(line), words + "-");
        Check.isTrue("agree() behind the undo of " + what, line.agree());
        Check.same("errors() behind the undo of " + what, line.errors(), 0);
    }

    private static String withoutGiven(Caretline line) {
        String state = Texts.state(line);
        return state.substring(0, state.length() - (line.givenBy() == 0 ? 1 : 1 + Texts.letters(line.given()).length()));
    }

    private static void eachAct(String words, int caret, int by) {
        String where = " at " + caret + " of \"" + words + "\" given by " + by;
        isBack("next" + where, Texts.at(words, caret, by), Caretline::next);
        isBack("previous" + where, Texts.at(words, caret, by), Caretline::previous);
        isBack("add" + where, Texts.at(words, caret, by), line -> line.add(3));
        isBack("set" + where, Texts.at(words, caret, by), line -> line.set(3));
        isBack("set to a like one" + where, Texts.at(words, caret, by), line -> line.set(1));
        isBack("remove" + where, Texts.at(words, caret, by), Caretline::remove);
        isBack("find" + where, Texts.at(words, caret, by), line -> line.find(1, false));
        isBack("find back" + where, Texts.at(words, caret, by), line -> line.find(1, true));
        isBack("swap" + where, Texts.at(words, caret, by), Caretline::swap);
    }

    private static void eachPlace(String words, int size, int step) {
        for (int caret = 0; caret <= size; caret += step) {
            for (int by = 0; by <= 2; by++) {
                if ((by != 1 || caret > 0) && (by != 2 || caret < size)) {
                    eachAct(words, caret, by);
                }
            }
            for (int to = 0; to <= size; to += step) {
                int index = to;
                isBack("move(" + to + ") from " + caret, Texts.at(words, caret, 0), line -> line.move(index));
            }
        }
    }

    private static void asTheyWere() {
        Check.sentence("Behind an undo the words and the caret are as they were ahead of the act");
        eachPlace("", 0, 1);
        eachPlace("a b", 2, 1);
        eachPlace("a a", 2, 1);
        eachPlace("a b a", 3, 1);
        eachPlace("b a c b", 4, 1);
    }

    private static void asTheyWereInFullLine() {
        Check.sentence("Behind an undo the words and the caret are as they were ahead of the act (of 99 and of 100 words)");
        eachPlace("b " + Texts.repeat("a ", 49) + Texts.repeat("b ", 49), 99, 33);
        eachPlace("b " + Texts.repeat("a ", 49) + Texts.repeat("b ", 50), 100, 25);
    }

    private static void asTheyWereInOneWord() {
        Check.sentence("Behind an undo the words and the caret are as they were ahead of the act (of one word)");
        eachPlace("a", 1, 1);
        eachPlace("b", 1, 1);
    }

    private static void noneIsGiven() {
        Check.sentence("Behind an undo [..] none is given then.");
        Caretline line = Texts.filled("a b", 0);
        line.next();
        line.next();
        line.set(3);
        line.undo();
        Check.same("behind the undo of a set", Texts.state(line), " a b|-");
        Check.same("set() then", line.set(4), Caretline.NO_STATE);
        line.undo();
        Check.same("behind the undo of a next, with a next ahead of it", Texts.state(line), " a|b -");
        Check.same("given()", line.given(), Caretline.NONE);
        Check.same("remove() then", line.remove(), Caretline.NO_STATE);
        line.previous();
        line.remove();
        line.undo();
        Check.same("behind the undo of a remove", Texts.state(line), "|a b -");
        Check.same("givenBy()", line.givenBy(), 0);
    }

    private static void behindFill() {
        Check.sentence("fill() and clear() are no acts, and nothing can be undone behind them (fill).");
        for (String words : new String[] {"", "a", Texts.repeat("a ", 100)}) {
            Caretline line = Texts.filled("a", 0);
            adds(line, 60);
            Texts.fill(line, words);
            Check.same("undoable() behind a fill", line.undoable(), 0);
            Check.same("acts() behind a fill", line.acts(), 60);
            String before = Texts.state(line);
            Check.same("undo() behind a fill", line.undo(), Caretline.NONE);
            Check.same("the words behind it", Texts.state(line), before);
            Check.same("move()", line.move(0), 0);
            Check.same("undo() of what is done then", line.undo(), 0);
            Check.same("and nothing ahead of it", line.undo(), Caretline.NONE);
        }
    }

    private static void behindFillWithAnError() {
        Check.sentence("A call that throws an exception changes nothing (what can be undone behind a fill with an error).");
        Caretline line = new Caretline();
        adds(line, 2);
        Check.isNoArgument("fill()", () -> Texts.fill(line, "a ?"));
        Check.isNoArgument("run()", () -> Texts.run(line, "+a ?"));
        undos(line, 2, 0);
        Check.same("size()", line.size(), 0);
    }

    private static void behindClear() {
        Check.sentence("fill() and clear() are no acts, and nothing can be undone behind them (clear).");
        Caretline line = new Caretline();
        adds(line, 60);
        Check.same("clear()", line.clear(), 60);
        Check.same("undoable()", line.undoable(), 0);
        Check.same("undo()", line.undo(), Caretline.NONE);
        Check.same("size()", line.size(), 0);
        Check.same("acts()", line.acts(), 60);
        line.add(1);
        line.previous();
        line.remove();
        Check.same("undoable() of a line without words", line.undoable(), 3);
        Check.same("clear() of it", line.clear(), 0);
        Check.same("undo() behind it", line.undo(), Caretline.NONE);
        line.add(1);
        Check.same("undo() of what is done then", line.undo(), 0);
    }

    private static void stillToUndo() {
        Check.sentence("undo: Returns the number of acts that can still be undone");
        Caretline line = new Caretline();
        adds(line, 55);
        Check.same("undo() of the latest of 50", line.undo(), 49);
        undos(line, 48, 1);
        Check.same("undo() of the last but one", line.undo(), 0);
        Check.same("undo() of none", line.undo(), Caretline.NONE);
    }

    private static void nothingIsDifferent() {
        Check.sentence("undo: NONE, and nothing is different, if there was none.");
        Caretline line = new Caretline();
        line.write();
        Texts.run(line, "*{.}-");
        Texts.fill(line, "a b");
        Check.isNoArgument("a run with an error", () -> Texts.run(line, ". ?"));
        Texts.run(line, "-");
        Check.isNoArgument("a fill with an error", () -> Texts.fill(line, "  ?"));
        Texts.type(line, "+a");
        String before = Texts.all(line);
        for (int i = 0; i < 3; i++) {
            Check.same("undo()", line.undo(), Caretline.NONE);
        }
        Check.same("all behind it", Texts.all(line), before);
        Check.same("refusals behind it", Texts.refusals(line), "1 2 0 0");
        Check.same("run() of the tape", line.run(), 1);
    }

    private static void undoable() {
        Check.sentence("undoable: Returns 0 to 50.");
        Caretline line = new Caretline();
        Check.same("undoable() of a new object", line.undoable(), 0);
        for (int acts = 1; acts <= 105; acts++) {
            line.move(0);
            Check.same("undoable() behind " + acts, line.undoable(), Math.min(acts, 50));
        }
        for (int left = 49; left >= 0; left--) {
            line.undo();
            Check.same("undoable() behind an undo", line.undoable(), left);
        }
        line.undo();
        Check.same("undoable() behind an undo of none", line.undoable(), 0);
    }
}
