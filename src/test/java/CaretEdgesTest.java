/** The boundary cases that promises 18 to 26 name: what is told of the caret. */
public final class CaretEdgesTest {
    private static final int[] FAR = {-1, -2, -100, -101, 100, 101, Integer.MIN_VALUE, Integer.MIN_VALUE + 1,
        Integer.MAX_VALUE, Integer.MAX_VALUE - 1, Integer.MAX_VALUE - 49, Integer.MAX_VALUE - 50, Integer.MAX_VALUE - 99,
        Integer.MAX_VALUE - 100};

    public static void main(String[] args) {
        nextIndex();
        previousIndex();
        hasNext();
        hasPrevious();
        ahead();
        aheadOfNoSuchPlace();
        behind();
        behindNoSuchPlace();
        given();
        givenAsItIsNow();
        givenBy();
        refusedNow();
        refusedNowOfFullLine();
        refusedNowIsTrue();
        Check.finish();
    }

    private static void nextIndex() {
        Check.sentence("nextIndex: Returns how many words are behind the caret.");
        Check.same("nextIndex() without words", new Caretline().nextIndex(), 0);
        Caretline line = Texts.filled(Texts.repeat("a ", 100), 0);
        for (int index = 0; index <= 100; index++) {
            line.move(index);
            Check.same("nextIndex() at " + index, line.nextIndex(), index);
        }
        line.next();
        Check.same("nextIndex() behind a refused next", line.nextIndex(), 100);
    }

    private static void previousIndex() {
        Check.sentence("previousIndex: Returns nextIndex() less 1; so NONE if there is no such word.");
        Check.same("previousIndex() without words", new Caretline().previousIndex(), Caretline.NONE);
        Caretline line = Texts.filled(Texts.repeat("a ", 100), 0);
        Check.same("previousIndex() ahead of all", line.previousIndex(), Caretline.NONE);
        for (int index = 0; index <= 100; index++) {
            line.move(index);
            Check.same("previousIndex() at " + index, line.previousIndex(), index - 1);
        }
    }

    private static void hasNext() {
        Check.sentence("hasNext: Tells whether there is a word ahead of the caret.");
        Check.isFalse("hasNext() without words", new Caretline().hasNext());
        for (int size : new int[] {1, 2, 100}) {
            Caretline line = Texts.filled(Texts.repeat("a ", size), 0);
            Check.isTrue("hasNext() ahead of all", line.hasNext());
            line.move(size - 1);
            Check.isTrue("hasNext() ahead of the last", line.hasNext());
            line.next();
            Check.isFalse("hasNext() behind all", line.hasNext());
            line.remove();
            Check.isFalse("hasNext() behind a remove of the last", line.hasNext());
        }
    }

    private static void hasPrevious() {
        Check.sentence("hasPrevious: Tells whether there is a word behind the caret.");
        Check.isFalse("hasPrevious() without words", new Caretline().hasPrevious());
        for (int size : new int[] {1, 2, 100}) {
            Caretline line = Texts.filled(Texts.repeat("a ", size), 0);
            Check.isFalse("hasPrevious() ahead of all", line.hasPrevious());
            line.next();
            Check.isTrue("hasPrevious() behind the first", line.hasPrevious());
            line.remove();
            Check.isFalse("hasPrevious() behind its remove", line.hasPrevious());
            line.add(1);
            Check.isTrue("hasPrevious() behind an add", line.hasPrevious());
        }
    }

    /** 100 unlike words, so that each place tells its own. */
    private static Caretline hundred(int caret) {
        Caretline line = new Caretline();
        for (int index = 0; index < 100; index++) {
            line.add(wordOf(index));
        }
        line.move(caret);
        return line;
    }

    private static int wordOf(int index) {
        return 27 * (index / 26 + 1) + index % 26 + 1;
    }

    private static void ahead() {
        Check.sentence("ahead: Returns a word ahead of the caret. 0 for the nearest one, and so on");
        for (int caret : new int[] {0, 1, 50, 99}) {
            Caretline line = hundred(caret);
            for (int place = 0; place < 100 - caret; place++) {
                Check.same("ahead(" + place + ") at " + caret, line.ahead(place), wordOf(caret + place));
            }
            Check.same("the caret stays", line.nextIndex(), caret);
            Check.same("none is given", line.givenBy(), 0);
        }
    }

    private static void aheadOfNoSuchPlace() {
        Check.sentence("ahead: NONE if there is no such place.");
        for (int caret : new int[] {0, 1, 50, 99, 100}) {
            Caretline line = hundred(caret);
            Check.same("ahead() of the first that is not, at " + caret, line.ahead(100 - caret), Caretline.NONE);
            for (int place : FAR) {
                Check.same("ahead(" + place + ") at " + caret, line.ahead(place), Caretline.NONE);
                Check.same("ahead(" + place + ") without words", new Caretline().ahead(place), Caretline.NONE);
            }
            Check.same("ahead(back to the first)", line.ahead(-caret - 1), Caretline.NONE);
        }
        Check.same("ahead(0) without words", new Caretline().ahead(0), Caretline.NONE);
    }

    private static void behind() {
        Check.sentence("behind: Returns a word behind the caret. 0 for the nearest one, and so on");
        for (int caret : new int[] {1, 2, 50, 100}) {
            Caretline line = hundred(caret);
            for (int place = 0; place < caret; place++) {
                Check.same("behind(" + place + ") at " + caret, line.behind(place), wordOf(caret - 1 - place));
            }
            Check.same("the caret stays", line.nextIndex(), caret);
            Check.same("none is given", line.givenBy(), 0);
        }
    }

    private static void behindNoSuchPlace() {
        Check.sentence("behind: NONE if there is no such place.");
        for (int caret : new int[] {0, 1, 50, 99, 100}) {
            Caretline line = hundred(caret);
            Check.same("behind() of the first that is not, at " + caret, line.behind(caret), Caretline.NONE);
            for (int place : FAR) {
                Check.same("behind(" + place + ") at " + caret, line.behind(place), Caretline.NONE);
                Check.same("behind(" + place + ") without words", new Caretline().behind(place), Caretline.NONE);
            }
            Check.same("behind(on to the last)", line.behind(caret - 100), caret == 100 ? wordOf(99) : Caretline.NONE);
        }
        Check.same("behind(0) without words", new Caretline().behind(0), Caretline.NONE);
    }

    private static void given() {
        Check.sentence("given: Returns [..] NONE if none is given.");
        Caretline line = new Caretline();
        Check.same("given() of a new object", line.given(), Caretline.NONE);
        line.add(1);
        Check.same("given() behind an add", line.given(), Caretline.NONE);
        line.previous();
        Check.same("given() of the only word", line.given(), 1);
        line.previous();
        line.swap();
        line.find(2, false);
        line.move(2);
        Check.same("given() behind refused acts", line.given(), 1);
        line.move(0);
        Check.same("given() behind a move to where it is", line.given(), Caretline.NONE);
        line.next();
        line.remove();
        Check.same("given() behind a remove", line.given(), Caretline.NONE);
    }

    private static void givenAsItIsNow() {
        Check.sentence("given: Returns its number, as it is now");
        Caretline line = Texts.filled("a b", 1);
        line.next();
        line.set(3);
        Check.same("given() behind a set", line.given(), 3);
        line.set(387420488);
        Check.same("given() behind another", line.given(), 387420488);
        line.swap();
        Check.same("given() behind a refused swap", line.given(), 387420488);
        line.previous();
        line.swap();
        Check.same("given() behind a swap", line.given(), 387420488);
        line.set(4);
        Check.same("wordAt(0)", line.wordAt(0), 4);
    }

    private static void givenBy() {
        Check.sentence("givenBy: Returns 0 if none is given, 1 by a next, 2 by a previous.");
        Caretline line = Texts.filled("a b c", 0);
        Check.same("givenBy() behind a fill", line.givenBy(), 0);
        line.next();
        Check.same("givenBy() behind a next", line.givenBy(), 1);
        line.previous();
        Check.same("givenBy() behind a previous", line.givenBy(), 2);
        line.set(4);
        Check.same("givenBy() behind a set", line.givenBy(), 2);
        line.find(2, false);
        Check.same("givenBy() behind a find", line.givenBy(), 1);
        line.find(4, true);
        Check.same("givenBy() behind a find back", line.givenBy(), 2);
        line.move(1);
        Check.same("givenBy() behind a move", line.givenBy(), 0);
        line.swap();
        Check.same("givenBy() behind a swap", line.givenBy(), 1);
        line.add(5);
        Check.same("givenBy() behind an add", line.givenBy(), 0);
    }

    private static void refusedNow() {
        Check.sentence("refusedNow: Returns the sum of 1 for next, 2 for previous, 4 for add, 8 for set and remove, 16 for swap");
        Check.same("refusedNow() without words", new Caretline().refusedNow(), 27);
        Caretline line = Texts.filled("a", 0);
        Check.same("refusedNow() ahead of the only word", line.refusedNow(), 2 + 8 + 16);
        line.next();
        Check.same("refusedNow() behind it", line.refusedNow(), 1 + 16);
        line.previous();
        Check.same("refusedNow() ahead of it, given", line.refusedNow(), 2 + 16);
        line.add(2);
        Check.same("refusedNow() between", line.refusedNow(), 8);
        line.swap();
        Check.same("refusedNow() behind a swap", line.refusedNow(), 0);
    }

    private static void refusedNowOfFullLine() {
        Check.sentence("refusedNow: 4 for add, as far as they would be");
        Caretline line = Texts.filled(Texts.repeat("a ", 99), 1);
        Check.same("refusedNow() of 99", line.refusedNow(), 8);
        line.add(1);
        Check.same("refusedNow() of 100", line.refusedNow(), 4 + 8);
        line.next();
        Check.same("refusedNow() of 100, one given", line.refusedNow(), 4);
        line.remove();
        Check.same("refusedNow() of 99 again", line.refusedNow(), 8);
        line.undo();
        Check.same("refusedNow() of 100 again", line.refusedNow(), 4 + 8);
    }

    /** Each sign of refusedNow() against the act itself, which is undone if it was done. */
    private static void refusedNowIsTrue() {
        Check.sentence("refusedNow: Tells which acts would be refused now.");
        for (String script : new String[] {"", "+a", "+a,", "+a+b,", "+a+b,,", "+a+b,.", "*{+a}", "*{+a}@50", "*{+a},", "*{+a}*{,}",
            "+a,-", "+a+b,-", "+a+b,%"}) {
            for (int act = 0; act < 6; act++) {
                Caretline line = new Caretline();
                Texts.run(line, script);
                int sign = act < 3 ? 1 << act : act < 5 ? 8 : 16;
                boolean isRefused = (line.refusedNow() & sign) != 0;
                Check.isTrue("act " + act + " behind \"" + script + "\"", tell(line, act) < 0 == isRefused);
            }
        }
    }

    private static int tell(Caretline line, int act) {
        switch (act) {
            case 0: return line.next();
            case 1: return line.previous();
            case 2: return line.add(1);
            case 3: return line.set(1);
            case 4: return line.remove();
            default: return line.swap();
        }
    }
}
