/** Many runs of calls, always the same ones, with every answer compared with the Model's. */
public final class OracleTest {
    private static final int RUNS = 1500;
    private static final int CALLS = 120;

    private static final String[] WORDS = {"a", "b", "c", "ab", "zz", "abcdef", "zzzzzz", "ba"};
    private static final int[] NO_WORDS = {0, 27, -1, 54, 387420489, 27 * 27 + 1};
    private static final String[] SCRIPT_PARTS = {".", ",", "-", "%", "+a", "+b", "+abc ", "=c", "=zz ", ">a", "<a", ">b",
        "<zz ", "@0", "@1 ", "@3 ", "@007", "@99 ", "@101 ", "2{", "3{", "20{", "*{", "*{", "}", "}", "}", "}", " ", "\n"};
    private static final String[] BAD_PARTS = {"?", "A", "ab", "7", "0{", "21{", "1000{", "{", "}", "@", "+", "+abcdefg",
        "@1234", "*", "5{", "1{1{1{1{1{", "\u00ff", "\t", "=", "1 ", "12 ", "\u0001", "\u0003"};

    private static long seed = 20261119;

    private Caretline line = new Caretline();
    private Model model = new Model();
    private final StringBuilder told = new StringBuilder();

    public static void main(String[] args) {
        for (int run = 0; run < RUNS; run++) {
            new OracleTest().calls(run);
        }
        Check.finish();
    }

    private static int any(int bound) {
        seed = seed * 6364136223846793005L + 1442695040888963407L;
        return (int) ((seed >>> 33) % bound);
    }

    private static String one(String[] texts) {
        return texts[any(texts.length)];
    }

    private void calls(int run) {
        // Some runs keep to few kinds of calls, so that they come to a full line or a long history.
        int kinds = run % 3 == 0 ? 8 : run % 3 == 1 ? 14 : 18;
        if (run % 5 == 0) {
            fill(Texts.repeat("ab ", 96 + any(5)));
        }
        for (int call = 0; call < CALLS; call++) {
            act(any(kinds));
            compare(run);
        }
    }

    private void same(String what, long got, long due) {
        told.append(' ').append(what);
        Check.same(told.length() > 400 ? ".." + told.substring(told.length() - 400) : told.toString(), got, due);
    }

    private void act(int kind) {
        int word = Texts.word(one(WORDS));
        switch (kind) {
            case 0: same("next()", line.next(), model.next()); break;
            case 1: same("previous()", line.previous(), model.previous()); break;
            case 2: case 3: same("add(" + word + ")", line.add(word), model.add(word)); break;
            case 4: same("set(" + word + ")", line.set(word), model.set(word)); break;
            case 5: same("remove()", line.remove(), model.remove()); break;
            case 6: move(any(20) == 0 ? any(300) - 100 : any(model.words.size() + 2)); break;
            case 7: find(word, any(2) == 0); break;
            case 8: same("swap()", line.swap(), model.swap()); break;
            case 9: case 10: undo(any(6) == 0 ? 60 : 1 + any(4)); break;
            case 11: case 12: case 13: run(script()); break;
            case 14: fill(words()); break;
            case 15: noWord(NO_WORDS[any(NO_WORDS.length)]); break;
            case 16: clearing(any(12)); break;
            default: run(script() + script() + script()); break;
        }
    }

    private void move(int index) {
        same("move(" + index + ")", line.move(index), model.move(index));
    }

    private void find(int word, boolean isBack) {
        same("find(" + word + "," + isBack + ")", line.find(word, isBack), model.find(word, isBack));
    }

    private void undo(int times) {
        for (int i = 0; i < times; i++) {
            same("undo()", line.undo(), model.undo());
        }
    }

    private void noWord(int number) {
        Check.isNoArgument("add(" + number + ")", () -> line.add(number));
        Check.isNoArgument("set(" + number + ")", () -> line.set(number));
        Check.isNoArgument("find(" + number + ")", () -> line.find(number, true));
    }

    private void clearing(int chance) {
        if (chance == 0) {
            same("clear()", line.clear(), model.clear());
        } else if (chance < 3) {
            type("abc ?");
            same("clearTape()", line.clearTape(), model.tape.length());
            model.tape = "";
        }
        same("write()", line.write(), model.text().length());
        model.written = model.text();
    }

    private String script() {
        StringBuilder text = new StringBuilder();
        int open = 0;
        for (int parts = any(14); parts > 0; parts--) {
            String part = any(60) == 0 ? one(BAD_PARTS) : one(SCRIPT_PARTS);
            if (part.equals("}") && open == 0) {
                continue;
            }
            if (part.endsWith("{") && open == 4) {
                continue;
            }
            open += part.endsWith("{") ? 1 : part.equals("}") ? -1 : 0;
            text.append(part);
        }
        return text.append(any(40) == 0 ? "" : Texts.repeat("}", open)).toString();
    }

    private String words() {
        StringBuilder text = new StringBuilder();
        for (int parts = any(60); parts > 0; parts--) {
            text.append(any(100) == 0 ? one(BAD_PARTS) : one(WORDS)).append(any(3) == 0 ? " \n" : " ");
        }
        return text.toString();
    }

    private void type(String text) {
        String part = text.substring(0, Math.min(text.length(), 300 - model.tape.length()));
        model.tape += part;
        same("append", Texts.type(line, part), model.tape.length());
        if (part.length() < text.length()) {
            Check.isThrown("append", IllegalStateException.class, () -> line.append(1, 0, 0, 0, 0));
        }
    }

    private void run(String script) {
        type(script);
        told.append(" run \"").append(script).append('"');
        int due = model.run();
        if (due == Caretline.NONE) {
            Check.isNoArgument(told.toString(), line::run);
        } else {
            same("run()", line.run(), due);
        }
    }

    private void fill(String words) {
        type(words);
        told.append(" fill \"").append(words).append('"');
        if (model.fill()) {
            same("fill()", line.fill(), model.words.size());
        } else {
            Check.isNoArgument(told.toString(), line::fill);
        }
    }

    private void compare(int run) {
        int caret = model.caret.nextIndex();
        int size = model.words.size();
        Check.same("nextIndex()", line.nextIndex(), caret);
        Check.same("previousIndex()", line.previousIndex(), caret - 1);
        Check.isTrue("hasNext()", line.hasNext() == model.caret.hasNext());
        Check.isTrue("hasPrevious()", line.hasPrevious() == model.caret.hasPrevious());
        Check.same("given()", line.given(), model.given);
        Check.same("givenBy()", line.givenBy(), model.by);
        Check.same("refusedNow()", line.refusedNow(), model.refusedNow());
        Check.same("undoable()", line.undoable(), model.copies.size());
        Check.same("acts()", line.acts(), model.acts);
        Check.same("endedBy()", line.endedBy(), model.endedBy);
        Check.same("errorPosition()", line.errorPosition(), model.errorPosition);
        Check.same("size()", line.size(), size);
        for (int kind = Caretline.FULL; kind <= Caretline.NO_ELEMENT; kind++) {
            Check.same("refusals(" + kind + ") in run " + run, line.refusals(kind), model.refusals[-kind]);
        }
        compareWords(caret, size);
        Check.isTrue("agree()", line.agree());
        Check.same("errors()", line.errors(), 0);
    }

    private void compareWords(int caret, int size) {
        Object[] words = model.words.toArray();
        for (int index = 0; index < size; index++) {
            int word = (Integer) words[index];
            Check.same("wordAt(" + index + ")", line.wordAt(index), word);
            Check.same("ahead or behind", index < caret ? line.behind(caret - 1 - index) : line.ahead(index - caret), word);
        }
        Check.same("ahead of all", line.ahead(size - caret), Caretline.NONE);
        Check.same("behind all", line.behind(caret), Caretline.NONE);
        int word = Texts.word(one(WORDS));
        Check.same("indexOf()", line.indexOf(word), model.words.indexOf(word));
        Check.same("lastIndexOf()", line.lastIndexOf(word), model.words.lastIndexOf(word));
        Check.same("count()", line.count(word), model.count(word));
        Check.same("unlike()", line.unlike(), model.unlike());
        Check.same("meanLetters()", line.meanLetters(), model.meanLetters());
        Check.same("caretShare()", line.caretShare(), model.caretShare());
        compareWritten();
    }

    private void compareWritten() {
        int length = model.written == null ? 0 : model.written.length();
        Check.isNoIndex("writtenAt()", () -> line.writtenAt(length));
        for (int index = 0; index < length; index += 1 + any(20)) {
            Check.same("writtenAt(" + index + ")", line.writtenAt(index), model.written.charAt(index));
        }
    }
}
