/** Promises 2 to 9: the acts. */
public final class ActsTest {
    public static void main(String[] args) {
        passing();
        adding();
        setting();
        removing();
        moving();
        findingForwards();
        findingBack();
        swapping();
        noWords();
        Check.finish();
    }

    private static void passing() {
        Caretline line = Texts.filled("ab c ab", 0);
        Check.same("previous() at the beginning", line.previous(), Caretline.NO_ELEMENT);
        Check.same("next()", line.next(), Texts.word("ab"));
        Check.same("behind a next", Texts.state(line), " ab|c ab <ab");
        Check.same("next()", line.next(), 3);
        Check.same("next()", line.next(), 29);
        Check.same("next() at the end", line.next(), Caretline.NO_ELEMENT);
        Check.same("a refused next leaves all", Texts.state(line), " ab c ab|<ab");
        Check.same("previous()", line.previous(), 29);
        Check.same("behind a previous", Texts.state(line), " ab c|ab >ab");
        Check.same("previous()", line.previous(), 3);
        Check.same("previous()", line.previous(), 29);
        Check.same("previous() at the beginning", line.previous(), Caretline.NO_ELEMENT);
        Check.same("a refused previous leaves all", Texts.state(line), "|ab c ab >ab");
        Check.same("acts", line.acts(), 6);
        Check.same("refusals", line.refusals(Caretline.NO_ELEMENT), 3);
        Caretline empty = new Caretline();
        Check.same("next() without words", empty.next(), Caretline.NO_ELEMENT);
        Check.same("previous() without words", empty.previous(), Caretline.NO_ELEMENT);
    }

    private static void adding() {
        Caretline line = Texts.filled("a b", 1);
        Check.same("add(c)", line.add(3), 3);
        Check.same("behind an add", Texts.state(line), " a c|b -");
        line.next();
        Check.same("add(d)", line.add(4), 4);
        Check.same("none is given behind an add", Texts.state(line), " a c b d|-");
        Check.same("add(zzzzzz)", line.add(387420488), 5);
        Check.same("the greatest word", Texts.state(line), " a c b d zzzzzz|-");
        for (int size = 6; size <= 100; size++) {
            Check.same("add to " + size, line.add(size % 26 + 1), size);
        }
        line.previous();
        String before = Texts.state(line);
        Check.same("the 101st add()", line.add(1), Caretline.FULL);
        Check.same("a refused add leaves all", Texts.state(line), before);
        Check.same("refusals of adds", line.refusals(Caretline.FULL), 1);
        Check.isNoArgument("add of no word to a full line", () -> line.add(27));
        Check.same("an exception counts no refusal", line.refusals(Caretline.FULL), 1);
        Check.same("acts", line.acts(), 101);
    }

    private static void setting() {
        Caretline line = Texts.filled("a b c", 1);
        Check.same("set() with none given", line.set(5), Caretline.NO_STATE);
        Check.isNoArgument("set of no word with none given", () -> line.set(0));
        Check.same("refusals", line.refusals(Caretline.NO_STATE), 1);
        line.next();
        Check.same("set behind a next", line.set(5), 2);
        Check.same("it is given by a next", Texts.state(line), " a e|c <e");
        Check.same("set again", line.set(6), 5);
        line.previous();
        Check.same("set behind a previous", line.set(7), 6);
        Check.same("it is given by a previous", Texts.state(line), " a|g c >g");
        Check.same("set to the same", line.set(7), 7);
        Check.isNoArgument("set of no word", () -> line.set(-1));
        Check.same("an exception changes nothing", Texts.state(line), " a|g c >g");
        Check.same("acts", line.acts(), 7);
        line.move(1);
        Check.same("set behind a move", line.set(8), Caretline.NO_STATE);
        line.add(9);
        Check.same("set behind an add", line.set(8), Caretline.NO_STATE);
    }

    private static void removing() {
        Caretline line = Texts.filled("a b c d", 1);
        Check.same("remove() with none given", line.remove(), Caretline.NO_STATE);
        line.next();
        Check.same("remove behind a next", line.remove(), 2);
        Check.same("the caret stays", Texts.state(line), " a|c d -");
        Check.same("remove again", line.remove(), Caretline.NO_STATE);
        line.next();
        line.previous();
        Check.same("remove behind a previous", line.remove(), 3);
        Check.same("the caret stays", Texts.state(line), " a|d -");
        line.next();
        line.set(9);
        Check.same("remove behind a set", line.remove(), 9);
        line.previous();
        Check.same("remove the only word", line.remove(), 1);
        Check.same("nothing is left", Texts.state(line), "|-");
        Check.same("refusals", line.refusals(Caretline.NO_STATE), 2);
        Check.same("acts", line.acts(), 11);
    }

    private static void moving() {
        Caretline line = Texts.filled("a b c", 0);
        line.next();
        Check.same("move(3)", line.move(3), 3);
        Check.same("none is given behind a move", Texts.state(line), " a b c|-");
        Check.same("move(0)", line.move(0), 0);
        Check.same("ahead of all", Texts.state(line), "|a b c -");
        line.next();
        Check.same("move(1) to the same index", line.move(1), 1);
        Check.same("is an act", Texts.state(line), " a|b c -");
        line.previous();
        Check.same("move(4)", line.move(4), Caretline.NO_INDEX);
        Check.same("move(-1)", line.move(-1), Caretline.NO_INDEX);
        Check.same("move(the greatest)", line.move(Integer.MAX_VALUE), Caretline.NO_INDEX);
        Check.same("move(the least)", line.move(Integer.MIN_VALUE), Caretline.NO_INDEX);
        Check.same("a refused move leaves all", Texts.state(line), "|a b c >a");
        Check.same("refusals", line.refusals(Caretline.NO_INDEX), 4);
        Check.same("acts", line.acts(), 6);
        Check.same("move(0) without words", new Caretline().move(0), 0);
        Check.same("move(1) without words", new Caretline().move(1), Caretline.NO_INDEX);
    }

    private static void findingForwards() {
        Caretline line = Texts.filled("a b a c b", 0);
        Check.same("find the nearest", line.find(1, false), 1);
        Check.same("find the next same", line.find(1, false), 2);
        Check.same("behind a find", Texts.state(line), " a b a|c b <a");
        Check.same("a word that is behind", line.find(1, false), Caretline.NO_ELEMENT);
        Check.same("a refused find leaves all", Texts.state(line), " a b a|c b <a");
        Check.same("find the last", line.find(2, false), 2);
        Check.same("at the end", Texts.state(line), " a b a c b|<b");
        Check.same("find at the end", line.find(2, false), Caretline.NO_ELEMENT);
        Check.same("each find is one act", line.acts(), 3);
        Check.same("and one to undo", line.undoable(), 3);
        Check.same("refusals", line.refusals(Caretline.NO_ELEMENT), 2);
        Check.isNoArgument("find no word", () -> line.find(54, false));
    }

    private static void findingBack() {
        Caretline line = Texts.filled("a b a c b", 5);
        Check.same("find back the nearest", line.find(2, true), 1);
        Check.same("behind a find back", Texts.state(line), " a b a c|b >b");
        Check.same("find back over two", line.find(2, true), 3);
        Check.same("behind it", Texts.state(line), " a|b a c b >b");
        Check.same("a word that is ahead", line.find(3, true), Caretline.NO_ELEMENT);
        Check.same("a refused find leaves all", Texts.state(line), " a|b a c b >b");
        Check.same("find back the first", line.find(1, true), 1);
        Check.same("at the beginning", Texts.state(line), "|a b a c b >a");
        Check.same("find back at the beginning", line.find(1, true), Caretline.NO_ELEMENT);
        Check.same("acts", line.acts(), 4);
        Check.isNoArgument("find back no word", () -> line.find(0, true));
        Check.same("find without words", new Caretline().find(1, true), Caretline.NO_ELEMENT);
    }

    private static void swapping() {
        Caretline line = Texts.filled("a b c", 0);
        Check.same("swap() ahead of all", line.swap(), Caretline.NO_ELEMENT);
        line.next();
        Check.same("swap()", line.swap(), 2);
        Check.same("behind a swap", Texts.state(line), " b|a c <b");
        Check.same("the word is given", line.set(4), 2);
        Check.same("swap again", line.swap(), 1);
        Check.same("behind it", Texts.state(line), " a|d c <a");
        Check.same("remove behind a swap", line.remove(), 1);
        Check.same("it was the word behind", Texts.state(line), "|d c -");
        line.move(2);
        line.previous();
        line.next();
        Check.same("swap() behind all", line.swap(), Caretline.NO_ELEMENT);
        Check.same("a refused swap leaves all", Texts.state(line), " d c|<c");
        Check.same("refusals", line.refusals(Caretline.NO_ELEMENT), 2);
        Check.same("acts", line.acts(), 8);
        Check.same("swap() without words", new Caretline().swap(), Caretline.NO_ELEMENT);
        Caretline same = Texts.filled("x x", 1);
        Check.same("swap of like words", same.swap(), 24);
        Check.same("is an act", same.acts(), 2);
    }

    private static void noWords() {
        int[] noWords = {0, -1, 27, 54, 27 * 27, 27 * 27 + 1, 27 * 28, 14348907, 14348907 * 26, 387420489, 387420490,
            Integer.MAX_VALUE, Integer.MIN_VALUE};
        Caretline line = Texts.filled("a", 0);
        line.next();
        for (int number : noWords) {
            Check.isNoArgument("add(" + number + ")", () -> line.add(number));
            Check.isNoArgument("set(" + number + ")", () -> line.set(number));
            Check.isNoArgument("find(" + number + ", false)", () -> line.find(number, false));
            Check.isNoArgument("find(" + number + ", true)", () -> line.find(number, true));
        }
        Check.same("they change nothing", Texts.state(line), " a|<a");
        Check.same("and are no acts", line.acts(), 1);
        Check.same("and no refusals", line.refusals(Caretline.NO_ELEMENT), 0);
        String[] words = {"a", "z", "aa", "zz", "azazaz", "aaaaaa", "zzzzzz", "aaaaa", "zzzzz"};
        for (int i = 0; i < words.length; i++) {
            Check.same("add(" + words[i] + ")", line.add(Texts.word(words[i])), i + 2);
        }
    }
}
