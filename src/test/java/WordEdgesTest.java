/** The boundary cases that Term 1 names (words and the line), and the one ahead of the public face. */
public final class WordEdgesTest {
    private static final int GREATEST = 387420488;
    private static final int[] NO_WORDS = {0, -1, -27, -GREATEST, Integer.MIN_VALUE, Integer.MAX_VALUE, 26 * 27, 27,
        27 * 27, 27 * 27 + 1, 14348907, 26 * 14348907, GREATEST - 26, GREATEST + 1, GREATEST + 2, 2 * GREATEST};

    public static void main(String[] args) {
        callsOfAnObject();
        dearestCallsOfAnObject();
        fewestAndMostLetters();
        numbersOfWords();
        numbersAroundPowers();
        numbersOfNoWord();
        numbersOfNoWordWithoutWords();
        mostWords();
        indexes();
        placesOfTheCaret();
        givenLatest();
        atFirst();
        Check.finish();
    }

    private static void callsOfAnObject() {
        Check.sentence("An object is used for at most 512 calls after it has been made.");
        Caretline line = new Caretline();
        for (int call = 1; call <= 510; call++) {
            Check.same("add() as call " + call, line.add(call % 26 + 1), call <= 100 ? call : Caretline.FULL);
        }
        Check.same("refusals(FULL) as call 511", line.refusals(Caretline.FULL), 410);
        Check.same("size() as call 512", line.size(), 100);
    }

    private static void dearestCallsOfAnObject() {
        Check.sentence("An object is used for at most 512 calls after it has been made (here by scripts of 300 acts).");
        Caretline line = new Caretline();
        for (int call = 1; call <= 509; call += 2) {
            Check.same("append() as call " + call, Texts.append(line, "20{*{+a,=z}@0*{.-}}", 0), 19);
            Check.same("run() as call " + (call + 1), line.run(), 300);
        }
        Check.same("acts() as call 511", line.acts(), 255 * 300);
        Check.same("errors() as call 512", line.errors(), 0);
    }

    private static void fewestAndMostLetters() {
        Check.sentence("A word has 1 to 6 letters a to z.");
        Caretline line = new Caretline();
        String[] words = {"a", "z", "aa", "zz", "aaa", "zzz", "aaaa", "zzzz", "aaaaa", "zzzzz", "aaaaaa", "zzzzzz"};
        for (int i = 0; i < words.length; i++) {
            Check.same("add(" + words[i] + ")", line.add(Texts.word(words[i])), i + 1);
        }
        Check.same("all of them written", Texts.written(line), String.join(" ", words) + " |");
        int noLetters = 0;
        Check.isNoArgument("a word of 0 letters", () -> line.add(noLetters));
        Check.isNoArgument("the least one of 7 letters", () -> line.add(Texts.word("aaaaaaa")));
        Check.same("the greatest one of 5 letters", Texts.word("zzzzz"), 14348906);
        Check.isNoArgument("the number behind it", () -> line.add(14348907));
    }

    private static void numbersOfWords() {
        Check.sentence("beginning with 0: it becomes 27 times itself plus the place of the letter in the alphabet");
        int[] numbers = {1, 26, 28, 53, 55, 728, 757, 19682, 20440, 531440, 551881, 14348906, 14900788, GREATEST};
        String[] words = {"a", "z", "aa", "az", "ba", "zz", "aaa", "zzz", "aaaa", "zzzz", "aaaaa", "zzzzz", "aaaaaa",
            "zzzzzz"};
        Caretline line = new Caretline();
        for (int i = 0; i < numbers.length; i++) {
            Texts.fill(line, words[i]);
            Check.same("wordAt(0) of " + words[i], line.wordAt(0), numbers[i]);
            Check.same("count(" + numbers[i] + ")", line.count(numbers[i]), 1);
            Texts.run(line, "+" + words[i]);
            Check.same("wordAt(0) behind +" + words[i], line.wordAt(0), numbers[i]);
        }
    }

    /** Whether a number is one of a word, told by its digits to the base 27 as a text. */
    private static boolean isWord(int number) {
        return number > 0 && number <= GREATEST && Integer.toString(number, 27).indexOf('0') < 0;
    }

    private static void isTakenOrThrown(Caretline line, int number) {
        if (isWord(number)) {
            Check.same("count(" + number + ")", line.count(number), 0);
        } else {
            Check.isNoArgument("count(" + number + ")", () -> line.count(number));
        }
    }

    private static void numbersAroundPowers() {
        Check.sentence("A number that is the number of no word causes an IllegalArgumentException (around each power of 27).");
        for (int from = -300; from < 20400; from += 300) {
            Caretline line = new Caretline();
            for (int number = from; number < from + 300; number++) {
                isTakenOrThrown(line, number);
            }
        }
        for (long power = 27; power <= GREATEST + 1L; power *= 27) {
            for (int times = 1; times <= 27; times++) {
                Caretline line = new Caretline();
                for (int more = -30; more <= 30; more++) {
                    isTakenOrThrown(line, (int) Math.min(power * times + more, Integer.MAX_VALUE));
                }
            }
        }
    }

    private static void numbersOfNoWord() {
        Check.sentence("A number that is the number of no word causes an IllegalArgumentException where a word is wanted.");
        for (int number : NO_WORDS) {
            Caretline line = Texts.filled("a b", 0);
            line.write();
            line.next();
            line.next();
            wantedNowhere(line, number);
        }
    }

    private static void numbersOfNoWordWithoutWords() {
        Check.sentence("A number that is the number of no word causes an IllegalArgumentException (also without words).");
        for (int number : NO_WORDS) {
            wantedNowhere(new Caretline(), number);
        }
    }

    private static void wantedNowhere(Caretline line, int number) {
        String before = Texts.all(line);
        Check.isNoArgument("add(" + number + ")", () -> line.add(number));
        Check.isNoArgument("set(" + number + ")", () -> line.set(number));
        Check.isNoArgument("find(" + number + ", false)", () -> line.find(number, false));
        Check.isNoArgument("find(" + number + ", true)", () -> line.find(number, true));
        Check.isNoArgument("indexOf(" + number + ")", () -> line.indexOf(number));
        Check.isNoArgument("lastIndexOf(" + number + ")", () -> line.lastIndexOf(number));
        Check.isNoArgument("count(" + number + ")", () -> line.count(number));
        Check.same("all behind them", Texts.all(line), before);
        Check.same("refusals behind them", Texts.refusals(line), "0 0 0 0");
    }

    private static void mostWords() {
        Check.sentence("The line has at most 100 words");
        Caretline line = Texts.filled(Texts.repeat("a ", 99), 50);
        Check.same("the 100th", line.add(2), 100);
        Check.same("the 101st", line.add(3), Caretline.FULL);
        Check.same("the 101st by a script", Texts.run(line, "+c"), 0);
        Check.isNoArgument("the 101st by a fill", () -> Texts.fill(line, Texts.repeat("c ", 101)));
        Check.same("size()", line.size(), 100);
        Check.same("count() of the 101st", line.count(3), 0);
        line.next();
        line.remove();
        Check.same("one more behind a remove", line.add(4), 100);
        Check.same("but one", line.add(5), Caretline.FULL);
    }

    private static void indexes() {
        Check.sentence("at most 100 words, at the indexes from 0 on");
        Caretline line = new Caretline();
        for (int word = 1; word <= 100; word++) {
            line.add(word + (word > 26 ? 1 : 0) + (word > 52 ? 1 : 0) + (word > 78 ? 1 : 0));
        }
        Check.same("wordAt(0)", line.wordAt(0), 1);
        Check.same("wordAt(25)", line.wordAt(25), 26);
        Check.same("wordAt(26)", line.wordAt(26), 28);
        Check.same("wordAt(99)", line.wordAt(99), 103);
        Check.same("indexOf the first", line.indexOf(1), 0);
        Check.same("indexOf the last", line.indexOf(103), 99);
        Check.isNoIndex("wordAt(100)", () -> line.wordAt(100));
        Check.isNoIndex("wordAt(-1)", () -> line.wordAt(-1));
    }

    private static void placesOfTheCaret() {
        Check.sentence("The caret lies between two words, ahead of the first or behind the last one.");
        Caretline line = Texts.filled("a b", 0);
        Check.same("ahead of the first", Texts.written(line), "| a b");
        Check.same("not farther back", line.previous(), Caretline.NO_ELEMENT);
        line.next();
        Check.same("between two", Texts.written(line), "a | b");
        line.next();
        Check.same("behind the last", Texts.written(line), "a b |");
        Check.same("not farther on", line.next(), Caretline.NO_ELEMENT);
        Check.same("move() as far", line.move(2), 2);
        Check.same("move() farther", line.move(3), Caretline.NO_INDEX);
        Check.same("still behind the last", Texts.written(line), "a b |");
    }

    private static void givenLatest() {
        Check.sentence("A word can be the one given latest, by a next or by a previous.");
        Caretline line = Texts.filled("a", 0);
        line.next();
        Check.same("given() by a next", line.given(), 1);
        Check.same("givenBy()", line.givenBy(), 1);
        line.previous();
        Check.same("given() by a previous", line.given(), 1);
        Check.same("givenBy()", line.givenBy(), 2);
    }

    private static void atFirst() {
        Check.sentence("At first the line is empty, and none is given.");
        Caretline line = new Caretline();
        Check.same("size()", line.size(), 0);
        Check.same("given()", line.given(), Caretline.NONE);
        Check.same("givenBy()", line.givenBy(), 0);
        Check.same("remove()", line.remove(), Caretline.NO_STATE);
        Check.same("set()", line.set(1), Caretline.NO_STATE);
        Check.same("next()", line.next(), Caretline.NO_ELEMENT);
        Check.same("previous()", line.previous(), Caretline.NO_ELEMENT);
    }
}
