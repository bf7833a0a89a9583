/** The boundary cases that promises 27 to 41 name: what is told of the line, and the figures. */
public final class LineEdgesTest {
    private static final int[] NO_INDEXES = {-1, -2, Integer.MIN_VALUE, Integer.MAX_VALUE, Integer.MAX_VALUE - 1, 701, 1000};

    public static void main(String[] args) {
        size();
        wordAt();
        wordAtNoIndex();
        indexOf();
        lastIndexOf();
        count();
        unlike();
        clear();
        clearLeaves();
        write();
        writeInPlace();
        writeTheGreatest();
        writtenAt();
        writtenAtNoSign();
        writtenAtNothing();
        refusals();
        refusalsOfNoKind();
        refusalsWithinScripts();
        refusalsByMostActs();
        refusalsSinceTheLine();
        acts();
        actsAndUndo();
        meanLetters();
        meanWithoutWords();
        caretShare();
        shareWithoutWords();
        agree();
        errors();
        Check.finish();
    }

    private static void size() {
        Check.sentence("size: Returns 0 to 100.");
        Caretline line = new Caretline();
        Check.same("size() of a new object", line.size(), 0);
        for (int words = 1; words <= 100; words++) {
            line.add(1);
            Check.same("size() behind an add", line.size(), words);
        }
        line.add(1);
        Check.same("size() behind a refused add", line.size(), 100);
        for (int words = 99; words >= 0; words--) {
            line.previous();
            line.remove();
            Check.same("size() behind a remove", line.size(), words);
        }
    }

    private static void wordAt() {
        Check.sentence("wordAt: 0 to size() - 1");
        Caretline line = Texts.filled("a b c", 0);
        for (int caret = 0; caret <= 3; caret++) {
            line.move(caret);
            for (int index = 0; index < 3; index++) {
                Check.same("wordAt(" + index + ") with the caret at " + caret, line.wordAt(index), index + 1);
            }
        }
    }

    private static void wordAtNoIndex() {
        Check.sentence("wordAt: Throws IndexOutOfBoundsException if there is no such index");
        Caretline empty = new Caretline();
        Check.isNoIndex("wordAt(0) without words", () -> empty.wordAt(0));
        for (int size : new int[] {1, 2, 3, 99, 100}) {
            Caretline line = Texts.filled(Texts.repeat("a ", size), size / 2);
            Check.same("wordAt() of the last", line.wordAt(size - 1), 1);
            Check.isNoIndex("wordAt() of " + size, () -> line.wordAt(size));
            for (int index : NO_INDEXES) {
                Check.isNoIndex("wordAt(" + index + ")", () -> line.wordAt(index));
                Check.isNoIndex("wordAt(" + index + ") without words", () -> empty.wordAt(index));
            }
        }
        Caretline less = Texts.filled("a b", 1);
        less.next();
        less.remove();
        Check.isNoIndex("wordAt(1) behind a remove", () -> less.wordAt(1));
        less.clear();
        Check.isNoIndex("wordAt(0) behind a clear", () -> less.wordAt(0));
    }

    private static void indexOf() {
        Check.sentence("indexOf: Returns the index; NONE if it is not in the line.");
        Check.same("indexOf() without words", new Caretline().indexOf(1), Caretline.NONE);
        Check.same("indexOf() of the only word", Texts.filled("a", 0).indexOf(1), 0);
        for (int caret : new int[] {0, 1, 50, 99, 100}) {
            Caretline line = Texts.filled("c " + Texts.repeat("a ", 98) + "b", caret);
            Check.same("indexOf() of the first", line.indexOf(3), 0);
            Check.same("indexOf() of many", line.indexOf(1), 1);
            Check.same("indexOf() of the last", line.indexOf(2), 99);
            Check.same("indexOf() of another", line.indexOf(4), Caretline.NONE);
        }
    }

    private static void lastIndexOf() {
        Check.sentence("lastIndexOf: Returns the index; NONE if it is not in the line.");
        Check.same("lastIndexOf() without words", new Caretline().lastIndexOf(1), Caretline.NONE);
        Check.same("lastIndexOf() of the only word", Texts.filled("a", 1).lastIndexOf(1), 0);
        for (int caret : new int[] {0, 1, 50, 99, 100}) {
            Caretline line = Texts.filled("c " + Texts.repeat("a ", 98) + "b", caret);
            Check.same("lastIndexOf() of the first", line.lastIndexOf(3), 0);
            Check.same("lastIndexOf() of many", line.lastIndexOf(1), 98);
            Check.same("lastIndexOf() of the last", line.lastIndexOf(2), 99);
            Check.same("lastIndexOf() of another", line.lastIndexOf(4), Caretline.NONE);
        }
    }

    private static void count() {
        Check.sentence("count: Counts how often a word is in the line.");
        Check.same("count() without words", new Caretline().count(1), 0);
        for (int caret : new int[] {0, 1, 50, 99, 100}) {
            Caretline line = Texts.filled("c " + Texts.repeat("a ", 98) + "c", caret);
            Check.same("count() of both ends", line.count(3), 2);
            Check.same("count() of many", line.count(1), 98);
            Check.same("count() of another", line.count(2), 0);
        }
        Check.same("count() of the greatest word", Texts.filled(Texts.repeat("zzzzzz ", 40), 0).count(387420488), 40);
    }

    private static void unlike() {
        Check.sentence("unlike: each one once, however often it stands there.");
        Check.same("unlike() without words", new Caretline().unlike(), 0);
        Check.same("unlike() of 100 alike", Texts.filled(Texts.repeat("a ", 100), 50).unlike(), 1);
        Check.same("unlike() of the ends", Texts.filled("b " + Texts.repeat("a ", 98) + "b", 1).unlike(), 2);
        Caretline line = new Caretline();
        for (int word = 0; word < 100; word++) {
            line.add(27 * (word / 26 + 1) + word % 26 + 1);
            Check.same("unlike() of unlike ones", line.unlike(), word + 1);
        }
        line.previous();
        line.set(28);
        Check.same("unlike() with two alike", line.unlike(), 99);
    }

    private static void clear() {
        Check.sentence("clear: Returns the number of words that there were.");
        for (int size : new int[] {0, 1, 2, 99, 100}) {
            for (int caret : new int[] {0, size / 2, size}) {
                Caretline line = Texts.filled(Texts.repeat("a ", size), caret);
                Check.same("clear() of " + size, line.clear(), size);
                Check.same("size() behind it", line.size(), 0);
                Check.same("clear() again", line.clear(), 0);
                Check.same("add() behind it", line.add(2), 1);
                Check.same("the line behind it", Texts.state(line), " b|-");
            }
        }
    }

    private static void clearLeaves() {
        Check.sentence("clear: Makes the line empty, with none given.");
        Caretline line = Texts.filled("a b", 0);
        line.write();
        Texts.run(line, "..");
        Texts.run(line, ".");
        Texts.type(line, "+c");
        line.previous();
        line.clear();
        Check.same("the line", Texts.state(line), "|-");
        Check.same("set()", line.set(1), Caretline.NO_STATE);
        Check.same("the rest stays", Texts.all(line),
            "|- now 27 undoable 0 acts 3 tape 2 error -1 ended -2 written \"| a b\"");
        Check.isTrue("agree()", line.agree());
    }

    private static void isWritten(String words, int caret, String due) {
        Caretline line = Texts.filled(words, caret);
        Check.same("write()", line.write(), due.length());
        Check.same("its text", Texts.writtenBefore(line), due);
    }

    private static void write() {
        Check.sentence("write: the words behind the caret, each with a space behind it, then a \"|\", then the words ahead of it [..]");
        isWritten("", 0, "|");
        isWritten("a", 0, "| a");
        isWritten("a", 1, "a |");
        isWritten("zzzzzz az", 0, "| zzzzzz az");
        isWritten("zzzzzz az", 1, "zzzzzz | az");
        isWritten("zzzzzz az", 2, "zzzzzz az |");
        isWritten("ghijkl mnopqr stuvwx y abcdef", 3, "ghijkl mnopqr stuvwx | y abcdef");
        for (char letter = 'a'; letter <= 'z'; letter++) {
            isWritten(letter + " z" + letter + " " + letter + "a", 1, letter + " | z" + letter + " " + letter + "a");
        }
    }

    private static void writeInPlace() {
        Check.sentence("write: in place of the text that was written before. Returns the number of signs of the text.");
        Caretline line = Texts.filled("abc def", 1);
        Check.same("write()", line.write(), 9);
        line.next();
        line.remove();
        Check.same("write() of less", line.write(), 5);
        Check.same("its text", Texts.writtenBefore(line), "abc |");
        line.clear();
        Check.same("the text stays behind a clear", Texts.writtenBefore(line), "abc |");
        Check.same("write() without words", line.write(), 1);
        Check.same("its text", Texts.writtenBefore(line), "|");
        line.add(1);
        Check.same("write() of more", line.write(), 3);
        Check.same("its text", Texts.writtenBefore(line), "a |");
    }

    private static void writeTheGreatest() {
        Check.sentence("write: Returns the number of signs of the text (of 100 words of 6 letters).");
        Caretline line = new Caretline();
        Texts.run(line, "*{+zazaza}");
        for (int caret : new int[] {100, 99, 1, 0}) {
            line.move(caret);
            Check.same("write()", line.write(), 701);
            Check.same("the bar", line.writtenAt(7 * caret), '|');
            Check.same("the first sign", line.writtenAt(0), caret == 0 ? '|' : 'z');
            Check.same("the last sign", line.writtenAt(700), caret == 100 ? '|' : 'a');
            Check.isNoIndex("the sign behind it", () -> line.writtenAt(701));
        }
    }

    private static void writtenAt() {
        Check.sentence("writtenAt: Returns a sign of the text that was written last.");
        Caretline line = Texts.filled("az", 1);
        line.write();
        int[] signs = {97, 122, 32, 124};
        for (int index = 0; index < signs.length; index++) {
            Check.same("writtenAt(" + index + ")", line.writtenAt(index), signs[index]);
        }
        line.move(0);
        Check.same("writtenAt(0) behind a move", line.writtenAt(0), 97);
        line.write();
        Check.same("writtenAt(0) behind a write", line.writtenAt(0), 124);
    }

    private static void writtenAtNoSign() {
        Check.sentence("writtenAt: Throws IndexOutOfBoundsException if there is no such sign");
        for (String words : new String[] {"", "a", "abcdef b"}) {
            Caretline line = Texts.filled(words, 0);
            int length = line.write();
            Check.isTrue("the last sign", line.writtenAt(length - 1) > 0);
            Check.isNoIndex("the sign behind it", () -> line.writtenAt(length));
            for (int index : NO_INDEXES) {
                Check.isNoIndex("writtenAt(" + index + ")", () -> line.writtenAt(index));
            }
        }
    }

    private static void writtenAtNothing() {
        Check.sentence("writtenAt: Throws IndexOutOfBoundsException if [..] nothing was written");
        Caretline line = Texts.filled("a", 0);
        line.next();
        Check.isNoIndex("writtenAt(0)", () -> line.writtenAt(0));
        for (int index : NO_INDEXES) {
            Check.isNoIndex("writtenAt(" + index + ")", () -> line.writtenAt(index));
        }
        line.write();
        Check.same("writtenAt(0) behind a write", line.writtenAt(0), 'a');
    }

    private static void refusals() {
        Check.sentence("refusals: Counts refusals, of calls");
        Caretline line = Texts.filled(Texts.repeat("a ", 100), 0);
        Check.same("refusals at first", Texts.refusals(line), "0 0 0 0");
        line.previous();
        line.swap();
        line.find(1, true);
        Check.same("refusals by NO_ELEMENT", Texts.refusals(line), "3 0 0 0");
        line.set(1);
        line.remove();
        Check.same("refusals by NO_STATE", Texts.refusals(line), "3 2 0 0");
        line.move(-1);
        line.move(101);
        line.move(Integer.MIN_VALUE);
        line.move(Integer.MAX_VALUE);
        Check.same("refusals by NO_INDEX", Texts.refusals(line), "3 2 4 0");
        line.add(1);
        Check.same("refusals by FULL", Texts.refusals(line), "3 2 4 1");
        line.move(100);
        line.next();
        line.find(1, false);
        Check.same("refusals by NO_ELEMENT", Texts.refusals(line), "5 2 4 1");
    }

    private static void refusalsOfNoKind() {
        Check.sentence("refusals: Throws IllegalArgumentException if kind is none of these");
        Caretline line = new Caretline();
        int[] kinds = {Caretline.NONE, 0, 1, 2, 3, 4, 5, Caretline.TOO_MANY, -7, -8, Integer.MIN_VALUE, Integer.MAX_VALUE,
            Integer.MIN_VALUE + 1, Integer.MAX_VALUE - 1};
        for (int kind : kinds) {
            Check.isNoArgument("refusals(" + kind + ")", () -> line.refusals(kind));
        }
        Check.same("refusals of each kind", Texts.refusals(line), "0 0 0 0");
    }

    private static void refusalsWithinScripts() {
        Check.sentence("refusals: Counts refusals, of calls and within scripts (those that end a *, too)");
        Caretline line = new Caretline();
        Texts.run(line, "*{.}*{,}*{%}*{>a}*{<a}");
        Check.same("refusals by NO_ELEMENT", Texts.refusals(line), "5 0 0 0");
        Texts.run(line, "*{-}*{=a}");
        Check.same("refusals by NO_STATE", Texts.refusals(line), "5 2 0 0");
        Texts.run(line, "*{@1}@1");
        Check.same("refusals by NO_INDEX", Texts.refusals(line), "5 2 2 0");
        Texts.run(line, "*{+a}+a");
        Check.same("refusals by FULL", Texts.refusals(line), "5 2 2 2");
    }

    private static void refusalsByMostActs() {
        Check.sentence("refusals: What ends a script by 300 acts is none.");
        for (String act : new String[] {".", ",", "%", ">b", "<b", "-", "=a", "@1", "@0", "+a"}) {
            Caretline line = new Caretline();
            Texts.run(line, "20{15{@0}}" + act);
            Check.same("endedBy() with " + act, line.endedBy(), Caretline.TOO_MANY);
            Check.same("refusals with " + act, Texts.refusals(line), "0 0 0 0");
        }
    }

    private static void refusalsSinceTheLine() {
        Check.sentence("refusals: since there is this line");
        Caretline line = new Caretline();
        line.next();
        line.remove();
        line.move(1);
        Texts.run(line, "*{+a}");
        line.clear();
        Texts.fill(line, "a");
        line.add(1);
        line.undo();
        Check.same("refusals behind a clear, a fill and an undo", Texts.refusals(line), "1 1 1 1");
        Check.same("refusals of another line", Texts.refusals(new Caretline()), "0 0 0 0");
    }

    private static void acts() {
        Check.sentence("acts: Counts the acts that were done, of calls and of scripts, since there is this line.");
        Caretline line = new Caretline();
        Check.same("acts() of a new object", line.acts(), 0);
        line.next();
        Check.same("acts() behind a refused one", line.acts(), 0);
        line.move(0);
        Check.same("acts() behind one", line.acts(), 1);
        Texts.run(line, "*{+a}*{-}@0>a");
        Check.same("acts() behind a script", line.acts(), 103);
        Texts.run(line, "*{@0}");
        Check.same("acts() behind one of 300", line.acts(), 403);
        line.clear();
        Texts.fill(line, "a b");
        line.write();
        Check.same("acts() behind a clear and a fill", line.acts(), 403);
    }

    private static void actsAndUndo() {
        Check.sentence("acts: An undo is none, and does not lessen it.");
        Caretline line = new Caretline();
        line.add(1);
        line.add(2);
        line.undo();
        line.undo();
        Check.same("acts() behind two undos", line.acts(), 2);
        line.undo();
        Check.same("acts() behind an undo of none", line.acts(), 2);
    }

    private static void meanLetters() {
        Check.sentence("meanLetters: the sum of their numbers of letters, converted to double, divided by the number of words");
        Check.same("of the shortest word", Texts.filled("a", 0).meanLetters(), 1.0);
        Check.same("of the longest word", Texts.filled("zzzzzz", 0).meanLetters(), 6.0);
        Check.same("of 1 and 6 letters", Texts.filled("z aaaaaa", 1).meanLetters(), 3.5);
        Check.same("of each length", Texts.filled("z zz zzz zzzz zzzzz zzzzzz", 3).meanLetters(), 3.5);
        Check.same("of each length", Texts.filled("a aa aaa aaaa aaaaa aaaaaa aaaaaa", 3).meanLetters(), 27.0 / 7.0);
        Check.same("of thirds", Texts.filled("a b cd", 3).meanLetters(), 4.0 / 3.0);
        Check.same("of 100", Texts.filled(Texts.repeat("a ", 99) + "bc", 0).meanLetters(), 1.01);
        Caretline line = new Caretline();
        Texts.run(line, "*{+zzzzzz}");
        Check.same("of 100 of the longest", line.meanLetters(), 6.0);
    }

    private static void meanWithoutWords() {
        Check.sentence("meanLetters: 0.0 without words.");
        Caretline line = new Caretline();
        Check.same("meanLetters() of a new object", line.meanLetters(), 0.0);
        line.add(28);
        line.undo();
        Check.same("meanLetters() behind an undo", line.meanLetters(), 0.0);
        line.add(28);
        line.clear();
        Check.same("meanLetters() behind a clear", line.meanLetters(), 0.0);
    }

    private static void caretShare() {
        Check.sentence("caretShare: nextIndex(), converted to float, divided by size(), converted to float");
        for (int size : new int[] {1, 2, 3, 7, 99, 100}) {
            Caretline line = Texts.filled(Texts.repeat("a ", size), 0);
            for (int caret = 0; caret <= size; caret++) {
                line.move(caret);
                Check.same("caretShare() at " + caret + " of " + size, line.caretShare(), (float) caret / (float) size);
            }
            Check.same("caretShare() behind all", line.caretShare(), 1.0f);
        }
    }

    private static void shareWithoutWords() {
        Check.sentence("caretShare: 0.0f without words.");
        Caretline line = new Caretline();
        Check.same("caretShare() of a new object", line.caretShare(), 0.0f);
        line.add(1);
        line.clear();
        Check.same("caretShare() behind a clear", line.caretShare(), 0.0f);
    }

    private static void agree() {
        Check.sentence("agree: Returns true if so; always.");
        Caretline line = new Caretline();
        Check.isTrue("agree() of a new object", line.agree());
        for (String script : new String[] {".", "+a", "+a+b%", "*{+abc}", "@50-.-", "*{,=x}", "*{.-}", "+a+b@1.=c%-"}) {
            Texts.run(line, script);
            Check.isTrue("agree() behind " + script, line.agree());
            line.undo();
            Check.isTrue("agree() behind an undo", line.agree());
        }
        Texts.fill(line, Texts.repeat("ab c ", 50));
        Check.isTrue("agree() behind a fill", line.agree());
        line.clear();
        Check.isTrue("agree() behind a clear", line.agree());
    }

    private static void errors() {
        Check.sentence("errors: Returns how many; always 0.");
        Caretline line = new Caretline();
        Check.same("errors() of a new object", line.errors(), 0);
        Texts.run(line, "*{+ab}*{,=c}*{>c-}+d%");
        line.undo();
        line.add(387420488);
        Check.isNoArgument("fill()", () -> Texts.fill(line, "?"));
        Check.same("errors() behind a script", line.errors(), 0);
        Texts.fill(line, Texts.repeat("a ", 100));
        Texts.run(line, "*{.=b}*{,-}");
        line.clear();
        Check.same("errors() behind a clear", line.errors(), 0);
    }
}
