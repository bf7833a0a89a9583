/** The boundary cases that Term 3 and promises 15 to 17 name: what just is a script, and how scripts end. */
public final class ScriptEdgesTest {
    /** Each act where it is refused in an empty line, by these reasons. */
    private static final String[] REFUSED = {".", ",", ">a", "<a", "%", "=a", "-", "@1"};
    private static final int[] REASONS = {Caretline.NO_ELEMENT, Caretline.NO_ELEMENT, Caretline.NO_ELEMENT,
        Caretline.NO_ELEMENT, Caretline.NO_ELEMENT, Caretline.NO_STATE, Caretline.NO_STATE, Caretline.NO_INDEX};
    private static final String ACTS_300 = "20{15{@0}}";
    private static final String FULL_LINE = Texts.repeat("a ", 100);

    public static void main(String[] args) {
        zeroTimes();
        everyByte();
        everyByteInAWord();
        everyByteBehindASign();
        everyByteInANumber();
        everyByteBehindANumber();
        lettersOfAWord();
        digitsOfANumber();
        numberThatBeginsAnAct();
        blanks();
        openBraces();
        openBracesAgain();
        braceBehindANumber();
        firstByte();
        textEndsTooEarly();
        fullTape();
        soManyTimes();
        starUntilRefused();
        innermostStar();
        nothingMore();
        onceWithoutAnAct();
        refusedOutside();
        mostActs();
        aheadOfTheNext();
        whereThisOneWouldBeRefused();
        mostActsWithinStars();
        refusedActsAmongMost();
        numberOfActs();
        noActIsDone();
        behindAnError();
        emptyTape();
        latestErrorPosition();
        latestEnding();
        Check.finish();
    }

    private static void ends(String words, String script, int acts, int ending, String refusals) {
        Caretline line = Texts.filled(words, 0);
        Check.same("run() of \"" + script + "\"", Texts.run(line, script), acts);
        Check.same("endedBy() of \"" + script + "\"", line.endedBy(), ending);
        Check.same("refusals of \"" + script + "\"", Texts.refusals(line), refusals);
    }

    private static void zeroTimes() {
        Check.sentence("The grammar is (curly braces without quotes: zero or more times): script = { act }");
        Scripts.does("a", "", 0, 0, "|a -");
        Scripts.does("a", "1{}", 0, 0, "|a -");
        Scripts.does("a", "20{}*{}", 0, 0, "|a -");
        Scripts.does("a", "*{*{*{*{}}}}", 0, 0, "|a -");
        Scripts.does("a", "1{1{1{1{}1{}}}}.", 1, 0, " a|<a");
        Check.same("run() of a tape that was never used", new Caretline().run(), 0);
    }

    /** Where a text of this byte alone has its error: at 0, or at 1 where an act begins; NONE if it is a script. */
    private static int errorOf(int one) {
        if (" \n.,-%".indexOf(one) >= 0) {
            return Caretline.NONE;
        }
        return "+=><@*123456789".indexOf(one) >= 0 ? 1 : 0;
    }

    private static void everyByte() {
        Check.sentence("Tokens are WORDs, NUMBERs, and the signs . , - % + = > < @ * { }. Everything else [..] is no token.");
        for (int one = 1; one <= 255; one++) {
            Caretline line = new Caretline();
            line.append(one << 8, 0, 0, 0, 0);
            if (errorOf(one) == Caretline.NONE) {
                Check.same("run() of byte " + one, line.run(), 0);
            } else {
                Check.isNoArgument("run() of byte " + one, line::run);
            }
            Check.same("errorPosition() of byte " + one, line.errorPosition(), errorOf(one));
        }
    }

    private static void everyByteInAWord() {
        Check.sentence("WORD is a maximal run of letters a to z");
        for (int one = 1; one <= 255; one++) {
            String text = "+b" + (char) one;
            Caretline line = new Caretline();
            if (one >= 'a' && one <= 'z') {
                Check.same("run() of " + text, Texts.run(line, text), 1);
                Check.same("its word", line.wordAt(0), 2 * 27 + one - 96);
            } else if (errorOf(one) == Caretline.NONE) {
                Check.same("run() of " + text, Texts.run(line, text), one == ',' ? 2 : 1);
                Check.same("its word", line.wordAt(0), 2);
            } else {
                Scripts.isError(text, 2 + errorOf(one));
            }
        }
    }

    private static void everyByteBehindASign() {
        Check.sentence("act = ( \"+\" | \"=\" | \">\" | \"<\" ) WORD");
        for (String sign : new String[] {"+", "=", ">", "<"}) {
            for (int one = 1; one <= 255; one++) {
                boolean fits = one >= 'a' && one <= 'z' || one == ' ' || one == '\n';
                // The b behind the word is what does not fit then.
                Scripts.isError(sign + (char) one + "a b", fits ? 4 : 1);
            }
        }
    }

    private static void everyByteInANumber() {
        Check.sentence("act = \"@\" NUMBER; NUMBER is a maximal run of digits");
        for (int one = 1; one <= 255; one++) {
            boolean fits = one >= '0' && one <= '9' || one == ' ' || one == '\n';
            Scripts.isError("@" + (char) one + " ?", fits ? 3 : 1);
        }
        Scripts.does(FULL_LINE, "@100", 1, 0, Texts.repeat(" a", 100) + "|-");
        Scripts.does("", "@0 1{+a}", 2, 0, " a|-");
    }

    private static void everyByteBehindANumber() {
        Check.sentence("act = ( NUMBER | \"*\" ) \"{\" script \"}\"");
        for (int one = 1; one <= 255; one++) {
            boolean isBlank = one == ' ' || one == '\n';
            Scripts.isError("1" + (char) one + " ?", one >= '0' && one <= '9' || one == '{' || isBlank ? 3 : 1);
            Scripts.isError("*" + (char) one + " ?", one == '{' || isBlank ? 3 : 1);
        }
    }

    private static void lettersOfAWord() {
        Check.sentence("a maximal run of letters a to z, of 1 to 6 letters [..] also a longer run of letters [..] is no token");
        Scripts.does("", "+a", 1, 0, " a|-");
        Scripts.does("", "+z+abcdef", 2, 0, " z abcdef|-");
        Scripts.does("abcdef", "*{.=uvwxyz}", 2, 0, " uvwxyz|<uvwxyz");
        Scripts.does("a abcdef", ">abcdef<abcdef", 2, 0, " a|abcdef >abcdef");
        for (String sign : new String[] {"+", "=", ">", "<"}) {
            Scripts.isError(sign + "abcdefg", 1);
            Scripts.isError(sign + " " + Texts.repeat("z", 298), 2);
            Scripts.isError(sign + "abcdef g", 8);
        }
    }

    private static void digitsOfANumber() {
        Check.sentence("NUMBER is a maximal run of digits, of 1 to 3 digits [..] also a longer run [..] of digits, is no token");
        Scripts.does("", "@0@00@000", 3, 0, "|-");
        Scripts.does("a b", "@2@02@002", 3, 0, " a b|-");
        Scripts.does("a b", "@999", 0, Caretline.NO_INDEX, "|a b -");
        Scripts.isError("@0999", 1);
        Scripts.isError("@0000", 1);
        Scripts.isError("@0001", 1);
        Scripts.isError("@1000", 1);
        Scripts.isError("@ " + Texts.repeat("0", 298), 2);
        Scripts.isError("0001{}", 0);
        Scripts.isError("1000{}", 0);
    }

    private static void numberThatBeginsAnAct() {
        Check.sentence("one that begins an act is from 1 to 20 (another one is an error at it)");
        for (int number = 0; number <= 999; number++) {
            String digits = String.valueOf(number);
            for (String text = digits; text.length() <= 3; text = "0" + text) {
                if (number >= 1 && number <= 20) {
                    Scripts.does("", text + "{@0}", number, 0, "|-");
                } else {
                    Scripts.isError(text + "{@0}", 0);
                    Scripts.isError("@0\n" + text + ".", 3);
                    Scripts.isError("*{ " + text, 3);
                }
            }
        }
    }

    private static void blanks() {
        Check.sentence("The bytes 32 and 10 may stand ahead of, between and behind tokens.");
        String[] tokens = {"2", "{", "+", "ab", "@", "0", "*", "{", ".", "}", "}"};
        for (String blank : new String[] {" ", "\n", " \n", "\n \n  "}) {
            Scripts.does("c", blank + String.join(blank, tokens) + blank, 9, 0, " ab c ab|<ab");
        }
        for (int one : new int[] {9, 11, 12, 13, 31, 33, 127, 160, 255}) {
            Scripts.isError(". " + (char) one + " .", 2);
        }
        Scripts.isError("+a b", 3);
        Scripts.isError("+ab\ncd", 4);
        Scripts.isError("1 0{@0}", 2);
    }

    private static void openBraces() {
        Check.sentence("Reading stops at the first token that does not fit: [..] it is a \"{\" while 4 are open.");
        for (int kinds = 0; kinds < 32; kinds++) {
            StringBuilder opening = new StringBuilder();
            for (int depth = 0; depth < 5; depth++) {
                opening.append((kinds >> depth & 1) == 0 ? "1{" : "*{");
            }
            Scripts.isError(opening + ".}}}}}", 9);
            Scripts.isError(opening.toString(), 9);
            Scripts.does("a", opening.substring(0, 8) + "}}}}.", 1, 0, " a|<a");
        }
        Scripts.does("", "2{2{2{2{@0}}}}", 16, 0, "|-");
        Scripts.isError("1{1{1{1{0{", 8);
        Scripts.isError("1{1{1{1{1", 9);
        Scripts.isError("1{1{1{1{*", 9);
    }

    private static void openBracesAgain() {
        Check.sentence("it is a \"{\" while 4 are open (closed ones are not)");
        Scripts.does("", "1{1{1{1{}1{+a}*{}}}}1{1{1{1{+b}}}}", 2, 0, " a b|-");
        Scripts.does("", Texts.repeat("1{}", 99) + "+a", 1, 0, " a|-");
        Scripts.isError("1{1{1{1{}1{1{}}}}}", 12);
        Scripts.isError("1{}1{1{1{1{1{", 12);
        Scripts.isError("}", 0);
        Scripts.isError("1{}}", 3);
        Scripts.isError("1{1{1{1{}}}}}", 12);
    }

    private static void braceBehindANumber() {
        Check.sentence("(A NUMBER that begins an act must be followed by \"{\".)");
        Scripts.isError("5.", 1);
        Scripts.isError("5 +a", 2);
        Scripts.isError("5 5{}", 2);
        Scripts.isError("5*{}", 1);
        Scripts.isError("5}", 1);
        Scripts.isError("1{5}", 3);
        Scripts.isError("@5 5", 4);
        Scripts.isError("@5 5 @5", 5);
        Scripts.does("", "5\n {@0}", 5, 0, "|-");
    }

    private static void firstByte() {
        Check.sentence("The error position is the index of its first byte");
        Scripts.isError("abcdef", 0);
        Scripts.isError("  abcdefgh", 2);
        Scripts.isError(". . abc .", 4);
        Scripts.isError("@1 123{.}", 3);
        Scripts.isError("+ab\n\nabc", 5);
        Scripts.isError("= 12345", 2);
        Scripts.isError(".?..{", 1);
        Scripts.isError("@ abc ?", 2);
        Scripts.isError("+a\u00ff\u00ff", 2);
    }

    private static void textEndsTooEarly() {
        Check.sentence("or the length of the text if the text ends too early");
        for (String text : new String[] {"2{+ab @12 *{.}>b 20{%-}}", "*{1{=ab 3{<c *{@1}}}}", "+a", "@1", "\n> \n a"}) {
            for (int length = 1; length < text.length(); length++) {
                String part = text.substring(0, length);
                if (!part.trim().isEmpty()) {
                    Scripts.isError(part, length);
                    Scripts.isError(part + " \n", length + 2);
                }
            }
        }
    }

    private static void fullTape() {
        Check.sentence("the index of its first byte, or the length of the text (of 300 bytes)");
        Scripts.does("", Texts.repeat("@0 ", 100), 100, 0, "|-");
        Scripts.does("a", Texts.repeat(".,", 150), 300, 0, "|a >a");
        Scripts.isError(Texts.repeat("@0 ", 99) + "@0?", 299);
        Scripts.isError(Texts.repeat("@0 ", 99) + " @{", 299);
        Scripts.isError(Texts.repeat("@0 ", 99) + "  @", 300);
        Scripts.isError(Texts.repeat("@0 ", 99) + " 1{", 300);
    }

    private static void soManyTimes() {
        Check.sentence("NUMBER does what stands in its braces so many times.");
        Scripts.does("", "1{+a}", 1, 0, " a|-");
        Scripts.does("", "2{+a}", 2, 0, " a a|-");
        Scripts.does("", "19{+a}", 19, 0, Texts.repeat(" a", 19) + "|-");
        Scripts.does("", "20{+a}", 20, 0, Texts.repeat(" a", 20) + "|-");
        Scripts.does("", "20{5{+a}}", 100, 0, Texts.repeat(" a", 100) + "|-");
        Scripts.does("a b", "1{1{1{1{.}}}}", 1, 0, " a|b <a");
        Scripts.does("a", "20{}.", 1, 0, " a|<a");
    }

    private static void starUntilRefused() {
        Check.sentence("* does it again and again, until an act in it is refused, which ends this *");
        for (int i = 0; i < REFUSED.length; i++) {
            ends("", "*{" + REFUSED[i] + "}+a", 1, 0, Texts.counted(REASONS[i], 1));
            ends("", "*{" + REFUSED[i] + "+b}+a", 1, 0, Texts.counted(REASONS[i], 1));
        }
        ends(FULL_LINE, "*{+a}@0", 1, 0, "0 0 0 1");
        ends("", "*{+a}@0", 101, 0, "0 0 0 1");
        ends("a b c", "*{.}", 3, 0, "1 0 0 0");
        ends("a b c", "*{.-}", 6, 0, "1 0 0 0");
        ends("a b c", "*{.--}", 2, 0, "0 1 0 0");
        ends("a", "*{.}*{,}*{.}", 3, 0, "3 0 0 0");
    }

    private static void innermostStar() {
        Check.sentence("which ends this * (the innermost one around that act)");
        Scripts.does("a b", "*{*{.}+x}", 100, 0, " a b" + Texts.repeat(" x", 98) + "|-");
        Scripts.does("a b", "*{*{.}@0*{,}-}@2", 4, 0, " a b|-");
        Scripts.does("a b", "*{*{*{*{.}}}}+x", 3, 0, " a b x|-");
        Scripts.does("a b", "*{20{.}+x}@0", 3, 0, "|a b -");
        Scripts.does("a b", "*{2{2{.}}+x}@0", 3, 0, "|a b -");
        Scripts.does("a b", "2{*{2{.}@0.}}", 5, 0, " a b|<b");
    }

    private static void nothingMore() {
        Check.sentence("which ends this * [..] and nothing more");
        Scripts.does("a b", "3{*{.}@0}", 9, 0, "|a b -");
        Scripts.does("a b", "2{2{*{.}@0}+x}", 15, 0, " x|x a b -");
        Scripts.does("", "20{*{.}+a}", 20, 0, Texts.repeat(" a", 20) + "|-");
        Scripts.does("a", "*{-}*{%}*{>b}*{<a}*{@2}.", 1, 0, " a|<a");
    }

    private static void onceWithoutAnAct() {
        Check.sentence("or until it was done once without a single act");
        ends("a", "*{}.", 1, 0, "0 0 0 0");
        ends("a", "*{20{}*{}}.", 1, 0, "0 0 0 0");
        ends("a", "*{*{,}}.", 1, 0, "1 0 0 0");
        ends("a", "*{*{,}*{-}3{*{@2}}}.", 1, 0, "1 1 3 0");
        ends("a b", "*{*{.}}", 2, 0, "2 0 0 0");
        ends("a b", "*{*{*{.}}}", 2, 0, "3 0 0 0");
        ends("a b", "*{*{.}1{}}@0", 3, 0, "2 0 0 0");
    }

    private static void refusedOutside() {
        Check.sentence("An act that is refused outside of any * ends the script.");
        for (int i = 0; i < REFUSED.length; i++) {
            ends("", REFUSED[i], 0, REASONS[i], Texts.counted(REASONS[i], 1));
            ends("", "@0" + REFUSED[i] + "+a", 1, REASONS[i], Texts.counted(REASONS[i], 1));
            ends("", "20{" + REFUSED[i] + "}+a", 0, REASONS[i], Texts.counted(REASONS[i], 1));
            ends("", "*{+a,-" + REFUSED[i] + "}2{@0 1{" + REFUSED[i] + "}}+a", 4, REASONS[i], Texts.counted(REASONS[i], 2));
        }
        ends(FULL_LINE, "+a@0", 0, Caretline.FULL, "0 0 0 1");
        ends("", "20{6{+a}}@0", 100, Caretline.FULL, "0 0 0 1");
    }

    private static void mostActs() {
        Check.sentence("A script does at most 300 acts");
        Scripts.does("", "19{15{@0}}14{@0}", 299, 0, "|-");
        Scripts.does("", "19{15{@0}}14{@0}+a", 300, 0, " a|-");
        Scripts.does("", "19{15{@0}}14{@0}+a+b", 300, Caretline.TOO_MANY, " a|-");
        Scripts.does("", ACTS_300, 300, 0, "|-");
        Scripts.does("", "20{20{@0}}", 300, Caretline.TOO_MANY, "|-");
        Scripts.does("", "*{@0}", 300, Caretline.TOO_MANY, "|-");
        Caretline line = new Caretline();
        for (int turn = 1; turn <= 3; turn++) {
            Check.same("each run() has its own", Texts.run(line, ACTS_300), 300);
            Check.same("endedBy()", line.endedBy(), 0);
        }
        line.add(1);
        Check.same("calls are none of them", Texts.run(line, ACTS_300), 300);
        Check.same("acts()", line.acts(), 1201);
    }

    private static void aheadOfTheNext() {
        Check.sentence("it ends ahead of the next one");
        Scripts.does("", ACTS_300 + "+a", 300, Caretline.TOO_MANY, "|-");
        Scripts.does("", ACTS_300 + "*{}20{}1{*{}}", 300, 0, "|-");
        Scripts.does("", ACTS_300 + "*{}20{}1{*{+a}}", 300, Caretline.TOO_MANY, "|-");
        Scripts.does("", "20{15{@0}}+a+b", 300, Caretline.TOO_MANY, "|-");
        Scripts.does("", "20{15{@0}*{}}*{}", 300, 0, "|-");
    }

    private static void whereThisOneWouldBeRefused() {
        Check.sentence("(where this one would be refused, too)");
        for (String act : REFUSED) {
            ends("", ACTS_300 + act, 300, Caretline.TOO_MANY, "0 0 0 0");
            ends("", ACTS_300 + "2{" + act + "}", 300, Caretline.TOO_MANY, "0 0 0 0");
            ends("", ACTS_300 + "*{" + act + "}", 300, Caretline.TOO_MANY, "0 0 0 0");
        }
        ends(FULL_LINE, ACTS_300 + "+a", 300, Caretline.TOO_MANY, "0 0 0 0");
        ends(FULL_LINE, ACTS_300 + "*{+a}", 300, Caretline.TOO_MANY, "0 0 0 0");
        ends("", "19{15{@0}}14{@0}.", 299, Caretline.NO_ELEMENT, "1 0 0 0");
        ends("", "19{15{@0}}14{@0}*{.}@0.", 300, Caretline.TOO_MANY, "1 0 0 0");
    }

    private static void mostActsWithinStars() {
        Check.sentence("A script does at most 300 acts; it ends ahead of the next one (within each kind of braces).");
        Scripts.does("", "*{*{*{*{@0}}}}+a", 300, Caretline.TOO_MANY, "|-");
        Scripts.does("", "*{20{@0}}+a", 300, Caretline.TOO_MANY, "|-");
        Scripts.does("", "*{20{15{@0}}}+a", 300, Caretline.TOO_MANY, "|-");
        Scripts.does("", "*{20{15{@0}}.}+a", 300, Caretline.TOO_MANY, "|-");
        Scripts.does("", "2{*{@0}}+a", 300, Caretline.TOO_MANY, "|-");
        Scripts.does("a", "*{.,}+a", 300, Caretline.TOO_MANY, "|a >a");
        Scripts.does("a", "*{.,@0 7{@0}}+a", 300, Caretline.TOO_MANY, "|a -");
        Scripts.does("a b", "*{*{.}*{,}}", 300, Caretline.TOO_MANY, "|a b >a");
        Scripts.does("a b", "@1*{*{.}*{,}}", 300, Caretline.TOO_MANY, "|a b >a");
    }

    private static void refusedActsAmongMost() {
        Check.sentence("A script does at most 300 acts (a refused one is not done).");
        ends("", "20{15{*{.}@0}}", 300, 0, "300 0 0 0");
        ends("", "20{15{@0*{.}}}", 300, Caretline.TOO_MANY, "299 0 0 0");
        ends("", "20{20{*{.}*{-}}}@0", 1, 0, "400 400 0 0");
        ends("", "20{20{20{*{.}}}}" + ACTS_300, 300, 0, "8000 0 0 0");
    }

    private static void numberOfActs() {
        Check.sentence("run: Returns the number of acts that were done.");
        Scripts.does("a", "", 0, 0, "|a -");
        Scripts.does("a", ",", 0, Caretline.NO_ELEMENT, "|a -");
        Scripts.does("a", ".,.", 3, 0, " a|<a");
        Scripts.does("a a b", ">b", 1, 0, " a a b|<b");
        Scripts.does("a", "...", 1, Caretline.NO_ELEMENT, " a|<a");
        Caretline line = Texts.filled("a", 0);
        line.next();
        Check.same("run() behind a call", Texts.run(line, ","), 1);
        line.undo();
        Check.same("run() behind an undo", Texts.run(line, ",."), 2);
    }

    private static void noActIsDone() {
        Check.sentence("run: Throws IllegalArgumentException if the text has an error; then no act is done");
        for (String script : new String[] {"+a?", "+a*{+b", "+a}", "3{+a}0{}", "+a+", "+a.....?", "*{+a}abcdefg"}) {
            Caretline line = Texts.filled("x", 1);
            line.previous();
            Texts.type(line, script);
            Check.isNoArgument("run() of \"" + script + "\"", line::run);
            Check.same("behind it", Texts.state(line), "|x >x");
            Check.same("acts()", line.acts(), 2);
            Check.same("undoable()", line.undoable(), 2);
            Check.same("refusals", Texts.refusals(line), "0 0 0 0");
        }
    }

    private static void behindAnError() {
        Check.sentence("A call that throws an exception changes nothing (what runs behind an error)");
        String[] errors = {"1{", "1{1{1{1{1{", "1{1{*{*{?", "1{1{+", "}", "+", "@", "5", "*", "abcdefg", "+abcdefg", "@1234"};
        for (String error : errors) {
            Caretline line = new Caretline();
            Check.isNoArgument("run() of \"" + error + "\"", () -> Texts.run(line, error));
            Check.isNoArgument("fill() of \"" + error + "\"", () -> Texts.fill(line, error + "?"));
            Check.same("run() behind \"" + error + "\"", Texts.run(line, "+b2{2{2{2{+a}}}}@0"), 18);
            Check.same("endedBy()", line.endedBy(), 0);
            Check.isNoArgument("run() behind it", () -> Texts.run(line, "}"));
            Check.isNoArgument("run() behind it", () -> Texts.run(line, "{"));
            Check.isNoArgument("run() behind it", () -> Texts.run(line, "a"));
            Check.isNoArgument("run() behind it", () -> Texts.run(line, "1"));
            Check.same("the line", Texts.state(line), "|b " + Texts.repeat("a ", 16) + "-");
        }
    }

    private static void emptyTape() {
        Check.sentence("run: Does the script on the tape, and empties the tape.");
        Caretline line = new Caretline();
        Texts.run(line, "+a");
        Check.same("the tape behind a run", line.clearTape(), 0);
        Check.same("run() again", line.run(), 0);
        Check.same("size() behind it", line.size(), 1);
        Texts.run(line, "+b...");
        Check.same("the tape behind a refused act", line.append(0, 0, 0, 0, 0), 0);
        Texts.run(line, "*{@0}");
        Check.same("the tape behind 300 acts", line.append(0, 0, 0, 0, 0), 0);
        Check.isNoArgument("a run with an error", () -> Texts.run(line, "+a?"));
        Check.same("the tape behind an error", line.append(0, 0, 0, 0, 0), 0);
        Check.same("run() behind an error", line.run(), 0);
        Check.same("size() behind them", line.size(), 2);
    }

    private static void latestErrorPosition() {
        Check.sentence("errorPosition: Returns the position; NONE if the text had no error, or there was none yet.");
        Caretline line = new Caretline();
        Check.same("there was none yet", line.errorPosition(), Caretline.NONE);
        Check.isNoArgument("run()", () -> Texts.run(line, ". ?"));
        Check.same("of a run", line.errorPosition(), 2);
        line.clear();
        line.clearTape();
        Texts.type(line, "a1");
        Check.same("it stays till the next", line.errorPosition(), 2);
        Check.isNoArgument("fill()", line::fill);
        Check.same("of a fill", line.errorPosition(), 1);
        Check.isNoArgument("run()", () -> Texts.run(line, "?"));
        Check.same("at 0", line.errorPosition(), 0);
        Check.same("a run without an error, but refused", Texts.run(line, "."), 0);
        Check.same("has none", line.errorPosition(), Caretline.NONE);
        Check.isNoArgument("run()", () -> Texts.run(line, "+"));
        Check.same("a fill without an error", line.fill(), 0);
        Check.same("has none", line.errorPosition(), Caretline.NONE);
    }

    private static void latestEnding() {
        Check.sentence("endedBy: Returns 0 if all was done, its text had an error, or there was none yet");
        Caretline line = new Caretline();
        Check.same("there was none yet", line.endedBy(), 0);
        Texts.run(line, ".");
        Check.same("refused", line.endedBy(), Caretline.NO_ELEMENT);
        line.next();
        line.add(1);
        line.undo();
        Check.isNoArgument("a fill with an error", () -> Texts.fill(line, "?"));
        line.clear();
        Check.same("calls leave it", line.endedBy(), Caretline.NO_ELEMENT);
        Check.isNoArgument("an error", () -> Texts.run(line, "?"));
        Check.same("its text had an error", line.endedBy(), 0);
        Texts.run(line, "*{@0}");
        Check.same("300 acts", line.endedBy(), Caretline.TOO_MANY);
        Texts.run(line, "");
        Check.same("all was done", line.endedBy(), 0);
        Texts.run(line, "=a");
        Check.same("refused", line.endedBy(), Caretline.NO_STATE);
        Texts.run(line, "*{=a}*{.}");
        Check.same("refused in a * alone", line.endedBy(), 0);
        Texts.run(line, "@1");
        Check.same("refused", line.endedBy(), Caretline.NO_INDEX);
        Texts.run(line, "*{+a}+a");
        Check.same("refused", line.endedBy(), Caretline.FULL);
    }
}
