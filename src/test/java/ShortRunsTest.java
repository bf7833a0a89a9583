/** Every short script and every short run of calls, with what comes of it compared with the Model's. */
public final class ShortRunsTest {
    private static final String[] TOKENS = {".", "-", "%", "+", "@", "a", "1", "2", "{", "}", "*", " ", "?"};
    private static final int MOST_TOKENS = 5;
    private static final int KINDS = 15;
    private static final int MOST_CALLS = 4;

    public static void main(String[] args) {
        scripts("", MOST_TOKENS);
        texts("", MOST_TOKENS);
        calls(new int[MOST_CALLS], 0);
        Check.finish();
    }

    private static void scripts(String text, int left) {
        script(text);
        if (left > 0) {
            for (String token : TOKENS) {
                scripts(text + token, left - 1);
            }
        }
    }

    private static void script(String text) {
        Caretline line = new Caretline();
        Model model = new Model();
        line.add(1);
        model.add(1);
        line.add(2);
        model.add(2);
        line.move(1);
        model.move(1);
        model.tape = text;
        Texts.type(line, text);
        int due = model.run();
        if (due == Caretline.NONE) {
            Check.isNoArgument("run() of \"" + text + "\"", line::run);
        } else {
            Check.same("run() of \"" + text + "\"", line.run(), due);
        }
        compare("\"" + text + "\"", line, model);
    }

    private static void texts(String text, int left) {
        Caretline line = new Caretline();
        Model model = new Model();
        model.tape = text;
        Texts.type(line, text);
        if (model.fill()) {
            Check.same("fill() of \"" + text + "\"", line.fill(), model.words.size());
        } else {
            Check.isNoArgument("fill() of \"" + text + "\"", line::fill);
        }
        compare("\"" + text + "\"", line, model);
        if (left > 0) {
            for (String part : new String[] {"a", "abc", "\n", " ", "1"}) {
                texts(text + part, left - 1);
            }
        }
    }

    private static void calls(int[] kinds, int from) {
        if (from == kinds.length) {
            calls("", kinds);
            calls("a b", kinds);
            return;
        }
        for (int kind = 0; kind < KINDS; kind++) {
            kinds[from] = kind;
            calls(kinds, from + 1);
        }
    }

    private static void calls(String words, int[] kinds) {
        Caretline line = new Caretline();
        Model model = new Model();
        Texts.type(line, words);
        model.tape = words;
        line.fill();
        model.fill();
        StringBuilder told = new StringBuilder();
        for (int kind : kinds) {
            told.append(' ').append(kind);
            Check.same("the last of" + told, tell(line, kind), tell(model, kind));
        }
        compare(told.toString(), line, model);
    }

    private static int tell(Caretline line, int kind) {
        switch (kind) {
            case 0: return line.next();
            case 1: return line.previous();
            case 2: return line.add(1);
            case 3: return line.add(2);
            case 4: return line.set(3);
            case 5: return line.remove();
            case 6: case 7: case 8: return line.move(kind - 6);
            case 9: return line.find(1, false);
            case 10: return line.find(2, true);
            case 11: return line.swap();
            case 12: return line.clear();
            case 13: return line.find(3, true);
            default: return line.undo();
        }
    }

    private static int tell(Model model, int kind) {
        switch (kind) {
            case 0: return model.next();
            case 1: return model.previous();
            case 2: return model.add(1);
            case 3: return model.add(2);
            case 4: return model.set(3);
            case 5: return model.remove();
            case 6: case 7: case 8: return model.move(kind - 6);
            case 9: return model.find(1, false);
            case 10: return model.find(2, true);
            case 11: return model.swap();
            case 12: return model.clear();
            case 13: return model.find(3, true);
            default: return model.undo();
        }
    }

    private static void compare(String what, Caretline line, Model model) {
        Check.same("nextIndex() behind " + what, line.nextIndex(), model.caret.nextIndex());
        Check.same("size() behind " + what, line.size(), model.words.size());
        int index = 0;
        for (int word : model.words) {
            Check.same("wordAt(" + index + ") behind " + what, line.wordAt(index), word);
            index++;
        }
        Check.same("given() behind " + what, line.given(), model.given);
        Check.same("givenBy() behind " + what, line.givenBy(), model.by);
        Check.same("refusedNow() behind " + what, line.refusedNow(), model.refusedNow());
        Check.same("undoable() behind " + what, line.undoable(), model.copies.size());
        Check.same("acts() behind " + what, line.acts(), model.acts);
        Check.same("endedBy() behind " + what, line.endedBy(), model.endedBy);
        Check.same("errorPosition() behind " + what, line.errorPosition(), model.errorPosition);
        for (int kind = Caretline.FULL; kind <= Caretline.NO_ELEMENT; kind++) {
            Check.same("refusals(" + kind + ") behind " + what, line.refusals(kind), model.refusals[-kind]);
        }
        Check.isTrue("agree() behind " + what, line.agree() && line.errors() == 0);
    }
}
