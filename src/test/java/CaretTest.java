/** Promises 18 to 26: what is told of the caret. */
public final class CaretTest {
    public static void main(String[] args) {
        indexes();
        sides();
        aheadAndBehind();
        given();
        refusedNow();
        refusedNowOfFullLine();
        Check.finish();
    }

    private static void indexes() {
        Caretline line = new Caretline();
        Check.same("nextIndex() of a new object", line.nextIndex(), 0);
        Check.same("previousIndex() of a new object", line.previousIndex(), Caretline.NONE);
        line.add(1);
        line.add(2);
        Check.same("nextIndex() behind two adds", line.nextIndex(), 2);
        Check.same("previousIndex()", line.previousIndex(), 1);
        line.previous();
        Check.same("nextIndex() behind a previous", line.nextIndex(), 1);
        Check.same("previousIndex()", line.previousIndex(), 0);
        line.remove();
        Check.same("nextIndex() behind a remove of the word ahead", line.nextIndex(), 1);
        line.previous();
        line.next();
        line.remove();
        Check.same("nextIndex() behind a remove of the word behind", line.nextIndex(), 0);
        Check.same("previousIndex()", line.previousIndex(), -1);
    }

    private static void sides() {
        Caretline empty = new Caretline();
        Check.isFalse("hasNext() without words", empty.hasNext());
        Check.isFalse("hasPrevious() without words", empty.hasPrevious());
        Caretline line = Texts.filled("a b", 0);
        Check.isTrue("hasNext() at the beginning", line.hasNext());
        Check.isFalse("hasPrevious() at the beginning", line.hasPrevious());
        line.next();
        Check.isTrue("hasNext() in the middle", line.hasNext());
        Check.isTrue("hasPrevious() in the middle", line.hasPrevious());
        line.next();
        Check.isFalse("hasNext() at the end", line.hasNext());
        Check.isTrue("hasPrevious() at the end", line.hasPrevious());
    }

    private static void aheadAndBehind() {
        Caretline line = Texts.filled("a b c d e", 2);
        int[] ahead = {3, 4, 5, Caretline.NONE, Caretline.NONE};
        int[] behind = {2, 1, Caretline.NONE, Caretline.NONE, Caretline.NONE};
        for (int place = 0; place < 5; place++) {
            Check.same("ahead(" + place + ")", line.ahead(place), ahead[place]);
            Check.same("behind(" + place + ")", line.behind(place), behind[place]);
        }
        for (int place : new int[] {-1, -2, -3, Integer.MIN_VALUE, Integer.MAX_VALUE, Integer.MAX_VALUE - 1}) {
            Check.same("ahead(" + place + ")", line.ahead(place), Caretline.NONE);
            Check.same("behind(" + place + ")", line.behind(place), Caretline.NONE);
        }
        Check.same("ahead(0) without words", new Caretline().ahead(0), Caretline.NONE);
        Check.same("behind(0) without words", new Caretline().behind(0), Caretline.NONE);
        line.move(5);
        Check.same("ahead(0) at the end", line.ahead(0), Caretline.NONE);
        Check.same("behind(4) at the end", line.behind(4), 1);
        line.move(0);
        Check.same("ahead(4) at the beginning", line.ahead(4), 5);
        Check.same("behind(0) at the beginning", line.behind(0), Caretline.NONE);
    }

    private static void isGiven(String what, Caretline line, int word, int by) {
        Check.same("given() behind " + what, line.given(), word);
        Check.same("givenBy() behind " + what, line.givenBy(), by);
    }

    private static void given() {
        Caretline line = Texts.filled("a b c d", 0);
        isGiven("a fill", line, Caretline.NONE, 0);
        line.next();
        isGiven("a next", line, 1, 1);
        line.set(9);
        isGiven("a set", line, 9, 1);
        line.next();
        line.previous();
        isGiven("a previous", line, 2, 2);
        line.set(8);
        isGiven("a set of the word ahead", line, 8, 2);
        line.next();
        line.previous();
        line.previous();
        line.previous();
        isGiven("a refused previous", line, 9, 2);
        line.find(3, false);
        isGiven("a find", line, 3, 1);
        line.find(8, true);
        isGiven("a find back", line, 8, 2);
        line.find(7, true);
        isGiven("a refused find", line, 8, 2);
        line.move(7);
        isGiven("a refused move", line, 8, 2);
        line.swap();
        isGiven("a swap", line, 8, 1);
        line.add(5);
        isGiven("an add", line, Caretline.NONE, 0);
        line.next();
        line.remove();
        isGiven("a remove", line, Caretline.NONE, 0);
        line.next();
        line.move(line.nextIndex());
        isGiven("a move", line, Caretline.NONE, 0);
        line.previous();
        line.undo();
        isGiven("an undo", line, Caretline.NONE, 0);
        line.previous();
        line.clear();
        isGiven("a clear", line, Caretline.NONE, 0);
        line.add(1);
        line.previous();
        Texts.fill(line, "a");
        isGiven("a fill", line, Caretline.NONE, 0);
    }

    private static void refusedNow() {
        Caretline line = new Caretline();
        Check.same("refusedNow() of a new object", line.refusedNow(), 1 + 2 + 8 + 16);
        line.add(1);
        Check.same("refusedNow() at the end", line.refusedNow(), 1 + 8 + 16);
        line.previous();
        Check.same("refusedNow() at the beginning", line.refusedNow(), 2 + 16);
        line.add(2);
        Check.same("refusedNow() in the middle", line.refusedNow(), 8);
        line.next();
        Check.same("refusedNow() with one given", line.refusedNow(), 1 + 16);
        line.previous();
        Check.same("refusedNow() in the middle with one given", line.refusedNow(), 0);
        line.remove();
        Check.same("refusedNow() at the end", line.refusedNow(), 1 + 8 + 16);
    }

    private static void refusedNowOfFullLine() {
        Caretline line = Texts.filled(Texts.repeat("a ", 99), 0);
        Check.same("refusedNow() with 99 words", line.refusedNow(), 2 + 8 + 16);
        line.add(2);
        Check.same("refusedNow() with 100 words", line.refusedNow(), 4 + 8);
        line.previous();
        Check.same("refusedNow() with 100 words at the beginning", line.refusedNow(), 2 + 4 + 16);
        line.move(100);
        Check.same("refusedNow() with 100 words at the end", line.refusedNow(), 1 + 4 + 8 + 16);
    }
}
