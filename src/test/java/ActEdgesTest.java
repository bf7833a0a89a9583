/** The boundary cases that Terms 2 and 5 and promises 2 to 9 name: where each act is just done, and just refused. */
public final class ActEdgesTest {
    private interface Act {
        int tell(Caretline line);
    }

    private static final String FULL_LINE = Texts.repeat("a ", 50) + Texts.repeat("b ", 50);

    public static void main(String[] args) {
        nextRefused();
        nextJustDone();
        previousRefused();
        previousJustDone();
        addRefused();
        addJustDone();
        setRefused();
        setJustDone();
        removeRefused();
        removeJustDone();
        moveRefused();
        moveJustDone();
        findForwardsRefused();
        findForwardsJustDone();
        findBackRefused();
        findBackJustDone();
        swapRefused();
        swapJustDone();
        doneOrRefused();
        exceptionsChangeNothing();
        firstException();
        Check.finish();
    }

    /** Told by a call, by a script and within a * of a script, the act is refused and leaves all as it was. */
    private static void isRefused(String what, Caretline line, Act act, String script, int kind) {
        String before = Texts.all(line);
        Check.same(what, act.tell(line), kind);
        Check.same("all behind " + what, Texts.all(line), before);
        Check.same("refusals behind " + what, Texts.refusals(line), Texts.counted(kind, 1));
        Check.same("run() of " + what, Texts.run(line, script + " @0"), 0);
        Check.same("endedBy() of " + what, line.endedBy(), kind);
        Check.same("refusals behind the run of " + what, Texts.refusals(line), Texts.counted(kind, 2));
        Check.same("run() of a * of " + what, Texts.run(line, "*{" + script + "@0}"), 0);
        Check.same("all behind them", Texts.all(line), before);
        Check.same("refusals behind the * of " + what, Texts.refusals(line), Texts.counted(kind, 3));
        areAlike(what, line);
    }

    private static void areAlike(String what, Caretline line) {
        Check.isTrue("agree() behind " + what, line.agree());
        Check.same("errors() behind " + what, line.errors(), 0);
    }

    /** The act is done, as a call of one object and in a script of another one that stands alike. */
    private static void isDone(String what, Caretline line, Caretline like, Act act, String script, int due, String state) {
        int acts = line.acts();
        Check.same(what, act.tell(line), due);
        Check.same("behind " + what, Texts.state(line), state);
        Check.same("acts() behind " + what, line.acts(), acts + 1);
        Check.same("run() of " + what, Texts.run(like, script), 1);
        Check.same("behind the run of " + what, Texts.state(like), state);
        Check.same("endedBy() of " + what, like.endedBy(), 0);
        Check.same("refusals behind " + what, Texts.refusals(line), "0 0 0 0");
        areAlike(what, line);
        areAlike("the run of " + what, like);
    }

    private static void isDone(String what, String words, int caret, int by, Act act, String script, int due, String state) {
        isDone(what, Texts.at(words, caret, by), Texts.at(words, caret, by), act, script, due, state);
    }

    private static void nextRefused() {
        Check.sentence("next: It is refused by NO_ELEMENT if there is none.");
        isRefused("next without words", new Caretline(), Caretline::next, ".", Caretline.NO_ELEMENT);
        isRefused("next behind one word", Texts.at("a", 1, 0), Caretline::next, ".", Caretline.NO_ELEMENT);
        isRefused("next behind all", Texts.at("a b", 2, 1), Caretline::next, ".", Caretline.NO_ELEMENT);
        isRefused("next behind 100", Texts.at(FULL_LINE, 100, 1), Caretline::next, ".", Caretline.NO_ELEMENT);
    }

    private static void nextJustDone() {
        Check.sentence("next: the caret passes the word ahead of it, which is given.");
        isDone("next over the only word", "a", 0, 0, Caretline::next, ".", 1, " a|<a");
        isDone("next over the last word", "a b", 1, 1, Caretline::next, ".", 2, " a b|<b");
        isDone("next over the word of a previous", "a b", 1, 2, Caretline::next, ".", 2, " a b|<b");
    }

    private static void previousRefused() {
        Check.sentence("previous: It is refused by NO_ELEMENT if there is none.");
        isRefused("previous without words", new Caretline(), Caretline::previous, ",", Caretline.NO_ELEMENT);
        isRefused("previous ahead of one", Texts.at("a", 0, 0), Caretline::previous, ",", Caretline.NO_ELEMENT);
        isRefused("previous ahead of all", Texts.at("a b", 0, 2), Caretline::previous, ",", Caretline.NO_ELEMENT);
        isRefused("previous ahead of 100", Texts.at(FULL_LINE, 0, 2), Caretline::previous, ",", Caretline.NO_ELEMENT);
    }

    private static void previousJustDone() {
        Check.sentence("previous: the caret passes the word behind it, which is given.");
        isDone("previous over the only word", "a", 1, 0, Caretline::previous, ",", 1, "|a >a");
        isDone("previous over the first word", "a b", 1, 2, Caretline::previous, ",", 1, "|a b >a");
        isDone("previous over the word of a next", "a b", 1, 1, Caretline::previous, ",", 1, "|a b >a");
    }

    private static void addRefused() {
        Check.sentence("add: It is refused by FULL if the line has 100 words.");
        isRefused("add to 100 ahead of all", Texts.at(FULL_LINE, 0, 2), line -> line.add(3), "+c", Caretline.FULL);
        isRefused("add to 100 between", Texts.at(FULL_LINE, 50, 1), line -> line.add(3), "+c", Caretline.FULL);
        isRefused("add to 100 behind all", Texts.at(FULL_LINE, 100, 0), line -> line.add(3), "+c", Caretline.FULL);
    }

    private static void addJustDone() {
        Check.sentence("add: a word comes behind the caret, between it and the word that was there; none is given then.");
        isDone("add without words", "", 0, 0, line -> line.add(3), "+c", 1, " c|-");
        isDone("add ahead of all", "a b", 0, 2, line -> line.add(3), "+c", 3, " c|a b -");
        isDone("add behind all", "a b", 2, 1, line -> line.add(3), "+c", 3, " a b c|-");
        String most = Texts.repeat("a ", 99);
        String letters = Texts.repeat(" a", 99);
        isDone("add of the 100th behind all", most, 99, 1, line -> line.add(3), "+c", 100, letters + " c|-");
        isDone("add of the 100th ahead", most, 0, 2, line -> line.add(3), "+c", 100, " c|" + most + "-");
    }

    private static void setRefused() {
        Check.sentence("set: It is refused by NO_STATE if none is given.");
        isRefused("set without words", new Caretline(), line -> line.set(3), "=c", Caretline.NO_STATE);
        isRefused("set behind a move", Texts.at("a b", 1, 0), line -> line.set(3), "=c", Caretline.NO_STATE);
        isRefused("set behind a fill", Texts.filled("a", 0), line -> line.set(3), "=c", Caretline.NO_STATE);
        Caretline added = Texts.at("a", 0, 2);
        added.add(2);
        isRefused("set behind an add", added, line -> line.set(3), "=c", Caretline.NO_STATE);
        Caretline removed = Texts.at("a b", 1, 1);
        removed.remove();
        isRefused("set behind a remove", removed, line -> line.set(3), "=c", Caretline.NO_STATE);
        Caretline undone = Texts.at("a b", 1, 1);
        undone.undo();
        isRefused("set behind an undo", undone, line -> line.set(3), "=c", Caretline.NO_STATE);
        Caretline cleared = Texts.at("a", 1, 1);
        cleared.clear();
        isRefused("set behind a clear", cleared, line -> line.set(3), "=c", Caretline.NO_STATE);
    }

    private static void setJustDone() {
        Check.sentence("set: the word given latest becomes another word; this one is the one given latest then, in the same way.");
        isDone("set of the only word", "a", 1, 1, line -> line.set(3), "=c", 1, " c|<c");
        isDone("set of it by a previous", "a", 0, 2, line -> line.set(3), "=c", 1, "|c >c");
        isDone("set of the first of 100", FULL_LINE, 0, 2, line -> line.set(1), "=a", 1,
            "|" + FULL_LINE + ">a");
        isDone("set to the word that is there", "a b", 2, 1, line -> line.set(2), "=b", 2, " a b|<b");
    }

    private static void removeRefused() {
        Check.sentence("remove: It is refused by NO_STATE if none is given.");
        isRefused("remove without words", new Caretline(), Caretline::remove, "-", Caretline.NO_STATE);
        isRefused("remove behind a move", Texts.at("a b", 1, 0), Caretline::remove, "-", Caretline.NO_STATE);
        Caretline added = Texts.at("a", 1, 1);
        added.add(2);
        isRefused("remove behind an add", added, Caretline::remove, "-", Caretline.NO_STATE);
        Caretline removed = Texts.at("a b c", 1, 2);
        removed.remove();
        isRefused("remove behind a remove", removed, Caretline::remove, "-", Caretline.NO_STATE);
        Caretline undone = Texts.at("a b", 1, 2);
        undone.undo();
        isRefused("remove behind an undo", undone, Caretline::remove, "-", Caretline.NO_STATE);
    }

    private static void removeJustDone() {
        Check.sentence("remove: the word given latest is taken out [..]; the caret stays between the same other words; none is given then.");
        isDone("remove of the only word", "a", 1, 1, Caretline::remove, "-", 1, "|-");
        isDone("remove of it by a previous", "a", 0, 2, Caretline::remove, "-", 1, "|-");
        isDone("remove of the first", "a b c", 1, 1, Caretline::remove, "-", 1, "|b c -");
        isDone("remove of the first by a previous", "a b c", 0, 2, Caretline::remove, "-", 1, "|b c -");
        isDone("remove of the last", "a b c", 3, 1, Caretline::remove, "-", 3, " a b|-");
        isDone("remove of the last by a previous", "a b c", 2, 2, Caretline::remove, "-", 3, " a b|-");
        isDone("remove between", "a b c", 2, 1, Caretline::remove, "-", 2, " a|c -");
        isDone("remove between by a previous", "a b c", 1, 2, Caretline::remove, "-", 2, " a|c -");
    }

    private static void moveRefused() {
        Check.sentence("move: It is refused by NO_INDEX if the index is below 0 or greater than the number of words.");
        isRefused("move(1) without words", new Caretline(), line -> line.move(1), "@1", Caretline.NO_INDEX);
        isRefused("move(3) of 2", Texts.at("a b", 1, 1), line -> line.move(3), "@3", Caretline.NO_INDEX);
        isRefused("move(101) of 100", Texts.at(FULL_LINE, 100, 1), line -> line.move(101), "@101", Caretline.NO_INDEX);
        isRefused("move(999)", Texts.at("a b", 1, 2), line -> line.move(999), "@999", Caretline.NO_INDEX);
        for (int index : new int[] {-1, -2, Integer.MIN_VALUE, Integer.MAX_VALUE}) {
            isRefused("move(" + index + ")", Texts.at("a b", 1, 2), line -> line.move(index), "@999", Caretline.NO_INDEX);
            isRefused("move(" + index + ")", new Caretline(), line -> line.move(index), "@999", Caretline.NO_INDEX);
        }
    }

    private static void moveJustDone() {
        Check.sentence("move: the caret goes to an index: ahead of the word with this index, or behind all. None is given then.");
        isDone("move(0) without words", "", 0, 0, line -> line.move(0), "@0", 0, "|-");
        isDone("move(0)", "a b", 2, 1, line -> line.move(0), "@0", 0, "|a b -");
        isDone("move(1) ahead of the last", "a b", 0, 2, line -> line.move(1), "@1", 1, " a|b -");
        isDone("move(2) behind all", "a b", 0, 2, line -> line.move(2), "@2", 2, " a b|-");
        isDone("move() to where it is", "a b", 1, 1, line -> line.move(1), "@1", 1, " a|b -");
        isDone("move(100) of 100", Texts.repeat("a ", 100), 0, 2, line -> line.move(100), "@100", 100,
            Texts.repeat(" a", 100) + "|-");
    }

    private static void findForwardsRefused() {
        Check.sentence("find: It is refused by NO_ELEMENT if this word is not ahead of the caret");
        isRefused("find without words", new Caretline(), line -> line.find(1, false), ">a", Caretline.NO_ELEMENT);
        isRefused("find behind the only one", Texts.at("a", 1, 1), line -> line.find(1, false), ">a", Caretline.NO_ELEMENT);
        isRefused("find behind the last one", Texts.at("b a b", 2, 1), line -> line.find(1, false), ">a", Caretline.NO_ELEMENT);
        isRefused("find of another", Texts.at("b a b", 0, 2), line -> line.find(3, false), ">c", Caretline.NO_ELEMENT);
    }

    private static void findForwardsJustDone() {
        Check.sentence("find forwards: next again and again, until a told word is given");
        isDone("find of the word ahead", "a b a", 0, 0, line -> line.find(1, false), ">a", 1, " a|b a <a");
        isDone("find of the last word", "a a b", 0, 2, line -> line.find(2, false), ">b", 3, " a a b|<b");
        isDone("find of the word of a previous", "a b", 1, 2, line -> line.find(2, false), ">b", 1, " a b|<b");
        isDone("find over 100", Texts.repeat("a ", 99) + "b", 0, 2, line -> line.find(2, false), ">b", 100,
            Texts.repeat(" a", 99) + " b|<b");
    }

    private static void findBackRefused() {
        Check.sentence("find: It is refused by NO_ELEMENT if this word is not behind it");
        isRefused("find back without words", new Caretline(), line -> line.find(1, true), "<a", Caretline.NO_ELEMENT);
        isRefused("find back ahead of it", Texts.at("a", 0, 2), line -> line.find(1, true), "<a", Caretline.NO_ELEMENT);
        isRefused("find back ahead of the first", Texts.at("b a b", 1, 2), line -> line.find(1, true), "<a", Caretline.NO_ELEMENT);
        isRefused("find back of another", Texts.at("b a b", 3, 1), line -> line.find(3, true), "<c", Caretline.NO_ELEMENT);
    }

    private static void findBackJustDone() {
        Check.sentence("find back: previous likewise");
        isDone("find back of the word behind", "a b a", 3, 0, line -> line.find(1, true), "<a", 1, " a b|a >a");
        isDone("find back of the first word", "a b b", 3, 1, line -> line.find(1, true), "<a", 3, "|a b b >a");
        isDone("find back of the word of a next", "a b", 1, 1, line -> line.find(1, true), "<a", 1, "|a b >a");
        isDone("find back over 100", "b " + Texts.repeat("a ", 99), 100, 1, line -> line.find(2, true), "<b", 100,
            "|b " + Texts.repeat("a ", 99) + ">b");
    }

    private static void swapRefused() {
        Check.sentence("swap: It is refused by NO_ELEMENT if there is none on one side.");
        isRefused("swap without words", new Caretline(), Caretline::swap, "%", Caretline.NO_ELEMENT);
        isRefused("swap ahead of one", Texts.at("a", 0, 2), Caretline::swap, "%", Caretline.NO_ELEMENT);
        isRefused("swap behind one", Texts.at("a", 1, 1), Caretline::swap, "%", Caretline.NO_ELEMENT);
        isRefused("swap ahead of all", Texts.at("a b", 0, 2), Caretline::swap, "%", Caretline.NO_ELEMENT);
        isRefused("swap behind all", Texts.at("a b", 2, 1), Caretline::swap, "%", Caretline.NO_ELEMENT);
        isRefused("swap behind 100", Texts.at(FULL_LINE, 100, 0), Caretline::swap, "%", Caretline.NO_ELEMENT);
    }

    private static void swapJustDone() {
        Check.sentence("swap: the words on both sides [..] change places; the caret stays; the word behind the caret is given then, by a next.");
        isDone("swap of the only two", "a b", 1, 0, Caretline::swap, "%", 2, " b|a <b");
        isDone("swap of two, one given by a previous", "a b", 1, 2, Caretline::swap, "%", 2, " b|a <b");
        isDone("swap of the last two", "a b c", 2, 1, Caretline::swap, "%", 3, " a c|b <c");
        isDone("swap of like words", "a a", 1, 2, Caretline::swap, "%", 1, " a|a <a");
        isDone("swap among 100", FULL_LINE, 50, 0, Caretline::swap, "%", 2,
            Texts.repeat(" a", 49) + " b|a " + Texts.repeat("b ", 49) + "<b");
    }

    /** Every act at every place of short lines, with each way of being given. */
    private static void doneOrRefused() {
        Check.sentence("An act is done, or it is refused; one that is refused leaves all as it was, but for the count of refusals.");
        for (String words : new String[] {"", "a", "a b", "b a", "a a", "a b a", "b a b", "c b a b"}) {
            int size = words.isEmpty() ? 0 : words.split(" ").length;
            for (int caret = 0; caret <= size; caret++) {
                for (int by = 0; by <= 2; by++) {
                    if ((by != 1 || caret > 0) && (by != 2 || caret < size)) {
                        eachAct(words, size, caret, by);
                    }
                }
            }
        }
    }

    private static void eachAct(String words, int size, int caret, int by) {
        String[] row = words.split(" ");
        boolean isAhead = false;
        boolean isBehind = false;
        for (int index = 0; index < size; index++) {
            isAhead |= index >= caret && row[index].equals("a");
            isBehind |= index < caret && row[index].equals("a");
        }
        String where = " at " + caret + " of \"" + words + "\" given by " + by;
        isEither("next" + where, Texts.at(words, caret, by), Caretline::next, ".", caret < size, Caretline.NO_ELEMENT);
        isEither("previous" + where, Texts.at(words, caret, by), Caretline::previous, ",", caret > 0, Caretline.NO_ELEMENT);
        isEither("add" + where, Texts.at(words, caret, by), line -> line.add(3), "+c", true, Caretline.FULL);
        isEither("set" + where, Texts.at(words, caret, by), line -> line.set(3), "=c", by != 0, Caretline.NO_STATE);
        isEither("remove" + where, Texts.at(words, caret, by), Caretline::remove, "-", by != 0, Caretline.NO_STATE);
        isEither("find" + where, Texts.at(words, caret, by), line -> line.find(1, false), ">a", isAhead, Caretline.NO_ELEMENT);
        isEither("find back" + where, Texts.at(words, caret, by), line -> line.find(1, true), "<a", isBehind, Caretline.NO_ELEMENT);
        isEither("swap" + where, Texts.at(words, caret, by), Caretline::swap, "%", caret > 0 && caret < size, Caretline.NO_ELEMENT);
        for (int index = 0; index <= size + 1; index++) {
            int to = index;
            isEither("move(" + to + ")" + where, Texts.at(words, caret, by), line -> line.move(to), "@" + to, to <= size,
                Caretline.NO_INDEX);
        }
    }

    private static void isEither(String what, Caretline line, Act act, String script, boolean isDone, int kind) {
        if (!isDone) {
            isRefused(what, line, act, script, kind);
            return;
        }
        int acts = line.acts();
        Check.isTrue(what + " is done", act.tell(line) >= 0);
        Check.same("acts() behind " + what, line.acts(), acts + 1);
        Check.same("refusals behind " + what, Texts.refusals(line), "0 0 0 0");
        areAlike(what, line);
    }

    private static Caretline used() {
        Caretline line = Texts.at("a b c", 2, 1);
        Texts.run(line, ".");
        Texts.run(line, ",.-.");
        line.previous();
        line.set(4);
        return line;
    }

    private static void exceptionsChangeNothing() {
        Check.sentence("A call that throws an exception changes nothing, except that run() and fill() empty the tape [..]");
        Caretline line = used();
        Texts.type(line, "ab ?");
        String before = Texts.all(line);
        String refused = Texts.refusals(line);
        Check.isNoArgument("add(0)", () -> line.add(0));
        Check.isNoArgument("set(0)", () -> line.set(0));
        Check.isNoArgument("find(0)", () -> line.find(0, false));
        Check.isNoArgument("indexOf(0)", () -> line.indexOf(0));
        Check.isNoArgument("lastIndexOf(0)", () -> line.lastIndexOf(0));
        Check.isNoArgument("count(0)", () -> line.count(0));
        Check.isNoArgument("refusals(0)", () -> line.refusals(0));
        Check.isNoIndex("wordAt(2)", () -> line.wordAt(2));
        Check.isNoIndex("writtenAt(99)", () -> line.writtenAt(99));
        Check.same("all behind them", Texts.all(line), before);
        Check.same("refusals behind them", Texts.refusals(line), refused);
        String rest = aheadOfTape(before);
        Check.isNoArgument("fill()", line::fill);
        Check.same("the line behind it", aheadOfTape(Texts.all(line)), rest);
        Check.same("the tape is empty", line.clearTape(), 0);
        Check.same("the error position is set", line.errorPosition(), 3);
        Check.same("endedBy() is not", line.endedBy(), Caretline.NO_ELEMENT);
        Check.isNoArgument("run()", () -> Texts.run(line, "+ab+"));
        Check.same("the line behind it", aheadOfTape(Texts.all(line)), rest);
        Check.same("the tape is empty", line.clearTape(), 0);
        Check.same("the error position is set", line.errorPosition(), 4);
        Check.same("endedBy() is set, too", line.endedBy(), 0);
        Check.same("refusals behind them", Texts.refusals(line), refused);
        Check.same("the text that was written stays", Texts.writtenBefore(line), "|");
    }

    /** Of what Texts.all() tells, the part that fill() and run() leave when they throw. */
    private static String aheadOfTape(String all) {
        return all.substring(0, all.indexOf(" tape"));
    }

    private static void firstException() {
        Check.sentence("If several exceptions apply to a call, the one that is listed first is thrown.");
        Caretline full = Texts.at(FULL_LINE, 100, 0);
        Check.isNoArgument("add of no word to 100 words", () -> full.add(27));
        Check.isNoArgument("set of no word with none given", () -> full.set(27));
        Check.isNoArgument("find of no word behind all", () -> full.find(27, false));
        Check.same("none of them is a refusal", Texts.refusals(full), "0 0 0 0");
    }
}
