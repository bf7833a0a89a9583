/** Promises 15 to 17: what a script is, what it does and how it ends. */
public final class ScriptTest {
    public static void main(String[] args) {
        signs();
        blanks();
        noScripts();
        errorsChangeNothing();
        numbers();
        repeating();
        stars();
        starsWithoutActs();
        endings();
        mostActs();
        mostActsLeaveNoRefusal();
        deepest();
        Check.finish();
    }

    private static void signs() {
        Scripts.does("a b c", "", 0, 0, "|a b c -");
        Scripts.does("a b c", ".", 1, 0, " a|b c <a");
        Scripts.does("a b c", "..,", 3, 0, " a|b c >b");
        Scripts.does("a b c", ".-", 2, 0, "|b c -");
        Scripts.does("a b c", ".%", 2, 0, " b|a c <b");
        Scripts.does("a b c", "+xyz", 1, 0, " xyz|a b c -");
        Scripts.does("a b c", ".=xyz", 2, 0, " xyz|b c <xyz");
        Scripts.does("a b c", ">c", 1, 0, " a b c|<c");
        Scripts.does("a b c", "@3<b", 2, 0, " a|b c >b");
        Scripts.does("a b c", "@2", 1, 0, " a b|c -");
        Scripts.does("a b c", "2{.}", 2, 0, " a b|c <b");
        Scripts.does("a b c", "*{.}", 3, 0, " a b c|<c");
        Scripts.does("", "+a+zzzzzz+ab", 3, 0, " a zzzzzz ab|-");
    }

    private static void blanks() {
        Scripts.does("a b c", " \n ", 0, 0, "|a b c -");
        Scripts.does("a b c", " . . ", 2, 0, " a b|c <b");
        Scripts.does("a b c", "\n+ \n d\n@ 0\n 2 \n{ . }\n", 4, 0, " d a|b c <a");
        Scripts.does("a b c", "+ab12{@0}", 13, 0, "|ab a b c -");
        Scripts.does("a b c", "@1 2{.}", 3, 0, " a b c|<c");
    }

    private static void noScripts() {
        Scripts.isError("a", 0);
        Scripts.isError(". abc", 2);
        Scripts.isError("..?", 2);
        Scripts.isError(".A", 1);
        Scripts.isError(".\t.", 1);
        Scripts.isError(".\r", 1);
        Scripts.isError(".\u00ff", 1);
        Scripts.isError(".\u0001", 1);
        Scripts.isError(".\u0002", 1);
        Scripts.isError("+", 1);
        Scripts.isError("+ \n", 3);
        Scripts.isError("+1", 1);
        Scripts.isError("+.", 1);
        Scripts.isError("=}", 1);
        Scripts.isError(">@1", 1);
        Scripts.isError("<\u0001", 1);
        Scripts.isError("+ab cd", 4);
        Scripts.isError("+abcdefg", 1);
        Scripts.isError("+abcdefg.", 1);
        Scripts.isError("+Abc", 1);
        Scripts.isError("+abC", 3);
        Scripts.isError("@", 1);
        Scripts.isError("@  ", 3);
        Scripts.isError("@a", 1);
        Scripts.isError("@1234", 1);
        Scripts.isError("@-1", 1);
        Scripts.isError("@1 2", 4);
        Scripts.isError("@1 2.", 4);
        Scripts.isError("0{.}", 0);
        Scripts.isError("00{.}", 0);
        Scripts.isError("21{.}", 0);
        Scripts.isError(" 999{.}", 1);
        Scripts.isError("1000{.}", 0);
        Scripts.isError("0001{.}", 0);
        Scripts.isError("5.", 1);
        Scripts.isError("5", 1);
        Scripts.isError("5 ", 2);
        Scripts.isError("5{.", 3);
        Scripts.isError("5{. ", 4);
        Scripts.isError("5{.}}", 4);
        Scripts.isError("}", 0);
        Scripts.isError("{.}", 0);
        Scripts.isError("*", 1);
        Scripts.isError("*.", 1);
        Scripts.isError("*5{.}", 1);
        Scripts.isError("*{.", 3);
        Scripts.isError("**{.}", 1);
        Scripts.isError("5 5{.}", 2);
        Scripts.isError("1{+}", 3);
        Scripts.isError("1{@}", 3);
        Scripts.isError("1{2}", 3);
        Scripts.isError("1{2{3{4{5{.}}}}}", 9);
        Scripts.isError("*{*{*{*{*{.}}}}}", 9);
        Scripts.isError("1{2{3{4{*{", 9);
        Scripts.isError("1{2{3{4{0{", 8);
        Scripts.isError("1{2{3{4{", 8);
        Scripts.isError("1{2{3{4{.}}}", 12);
        Scripts.isError("1{2{3{4{.}}}}}", 13);
        Scripts.isError("a ?", 0);
        Scripts.isError(". ? a }", 2);
        Scripts.isError(Texts.repeat(".", 299) + "{", 299);
        Scripts.isError(Texts.repeat("+a ", 99) + "a *", 297);
        Scripts.isError(Texts.repeat(" ", 299) + "@", 300);
    }

    private static void errorsChangeNothing() {
        Caretline line = Texts.filled("a b c", 1);
        line.next();
        line.set(5);
        Check.same("a run that is refused", Texts.run(line, "+x-"), 1);
        Check.same("endedBy()", line.endedBy(), Caretline.NO_STATE);
        line.previous();
        Check.isNoArgument("run()", () -> Texts.run(line, ". . . ?"));
        Check.same("the line", Texts.state(line), " a e|x c >x");
        Check.same("what can be undone", line.undoable(), 5);
        Check.same("refusals", line.refusals(Caretline.NO_STATE), 1);
        Check.same("endedBy() behind an error", line.endedBy(), 0);
        Check.same("errorPosition()", line.errorPosition(), 6);
        Check.same("run() behind it", Texts.run(line, "-"), 1);
        Check.same("errorPosition() behind it", line.errorPosition(), Caretline.NONE);
        Check.same("run() of an empty tape", line.run(), 0);
        Check.isNoArgument("a fill with an error", () -> Texts.fill(line, "a 1"));
        Check.same("run() sets the error position of a fill", Texts.run(line, ""), 0);
        Check.same("errorPosition()", line.errorPosition(), Caretline.NONE);
        Check.same("errorPosition() of a new object", new Caretline().errorPosition(), Caretline.NONE);
        Check.same("endedBy() of a new object", new Caretline().endedBy(), 0);
    }

    private static void numbers() {
        Scripts.does("a b c", "@0", 1, 0, "|a b c -");
        Scripts.does("a b c", "@003", 1, 0, " a b c|-");
        Scripts.does("a b c", "@4", 0, Caretline.NO_INDEX, "|a b c -");
        Scripts.does("a b c", "@999", 0, Caretline.NO_INDEX, "|a b c -");
        Scripts.does("a b c", "002{.}", 2, 0, " a b|c <b");
        Scripts.does("a b c", "1{.}", 1, 0, " a|b c <a");
        Scripts.does("", "20{+a}", 20, 0, Texts.repeat(" a", 20) + "|-");
        Scripts.does("", "020{@0}", 20, 0, "|-");
    }

    private static void repeating() {
        Scripts.does("", "2{+a 3{+b}}", 8, 0, " a b b b a b b b|-");
        Scripts.does("a b c", "2{. 2{+x ,} -}", 12, 0, " a x|x b c -");
        Scripts.does("a b c", "5{.}", 3, Caretline.NO_ELEMENT, " a b c|<c");
        Scripts.does("a b c", "2{5{.}+x}", 3, Caretline.NO_ELEMENT, " a b c|<c");
        Scripts.does("a b c", "1{2{}.}.", 2, 0, " a b|c <b");
    }

    private static void stars() {
        Scripts.does("a b c", "*{.}+x", 4, 0, " a b c x|-");
        Scripts.does("a b c", "*{.-}", 6, 0, "|-");
        Scripts.does("a b c", "*{.+x}", 6, 0, " a x b x c x|-");
        Scripts.does("a b c", "*{5{.}}+x", 4, 0, " a b c x|-");
        Scripts.does("a b c", "*{*{.}@9}+x", 4, 0, " a b c x|-");
        Scripts.does("a b c", "2{*{.}@0}", 8, 0, "|a b c -");
        Scripts.does("a b a", "*{>a=x}", 4, 0, " x b x|<x");
        Scripts.does("a b c", "*{-}*{=x}*{<a}*{%}*{@4}.", 1, 0, " a|b c <a");
        Scripts.does("a b c", "*{-}-", 0, Caretline.NO_STATE, "|a b c -");
        Caretline line = Texts.filled("a b c", 0);
        Texts.run(line, "*{.} *{.} 2{*{@7}} *{-.}");
        Check.same("refusals that end a * are counted", line.refusals(Caretline.NO_ELEMENT), 3);
        Check.same("of each kind", line.refusals(Caretline.NO_INDEX), 2);
        Check.same("of each kind", line.refusals(Caretline.NO_STATE), 0);
    }

    private static void starsWithoutActs() {
        Scripts.does("a b c", "*{}+x", 1, 0, " x|a b c -");
        Scripts.does("a b c", "*{*{}*{}}.", 1, 0, " a|b c <a");
        Scripts.does("a b c", "*{*{.}}+x", 4, 0, " a b c x|-");
        Scripts.does("a b c", "*{3{}}.", 1, 0, " a|b c <a");
        Caretline line = Texts.filled("a b c", 0);
        Check.same("run()", Texts.run(line, "*{*{.}}"), 3);
        Check.same("the outer * turns once more", line.refusals(Caretline.NO_ELEMENT), 2);
        Check.same("run()", Texts.run(line, "*{*{.}*{*{-}}}"), 1);
        Check.same("and here, too", line.refusals(Caretline.NO_ELEMENT), 4);
        Check.same("and inside", line.refusals(Caretline.NO_STATE), 3);
    }

    private static void endings() {
        Scripts.does("a b c", ".....", 3, Caretline.NO_ELEMENT, " a b c|<c");
        Scripts.does("a b c", ",.", 0, Caretline.NO_ELEMENT, "|a b c -");
        Scripts.does("a b c", "=x.", 0, Caretline.NO_STATE, "|a b c -");
        Scripts.does("a b c", ">d.", 0, Caretline.NO_ELEMENT, "|a b c -");
        Scripts.does("a b c", "<a.", 0, Caretline.NO_ELEMENT, "|a b c -");
        Scripts.does("a b c", "%.", 0, Caretline.NO_ELEMENT, "|a b c -");
        Scripts.does("a b c", ".@5.", 1, Caretline.NO_INDEX, " a|b c <a");
        Scripts.does("", "20{6{+a}}", 100, Caretline.FULL, Texts.repeat(" a", 100) + "|-");
        Scripts.does("", "*{+a}@0", 101, 0, "|" + Texts.repeat("a ", 100) + "-");
        Caretline line = Texts.filled("a", 0);
        Texts.run(line, "..");
        Check.same("endedBy()", line.endedBy(), Caretline.NO_ELEMENT);
        Check.same("its refusal is counted", line.refusals(Caretline.NO_ELEMENT), 1);
        Texts.run(line, "@0");
        Check.same("endedBy() of the latest run", line.endedBy(), 0);
    }

    private static void mostActs() {
        Scripts.does("", "20{15{@0}}", 300, 0, "|-");
        Scripts.does("", "20{15{@0}}*{}2{}", 300, 0, "|-");
        Scripts.does("", "20{15{@0}}@0", 300, Caretline.TOO_MANY, "|-");
        Scripts.does("", "20{15{@0}}.", 300, Caretline.TOO_MANY, "|-");
        Scripts.does("", "20{15{@0}}*{.}", 300, Caretline.TOO_MANY, "|-");
        Scripts.does("", "20{20{@0}}", 300, Caretline.TOO_MANY, "|-");
        Scripts.does("", "*{@0}", 300, Caretline.TOO_MANY, "|-");
        Scripts.does("", "*{*{@0}}+a", 300, Caretline.TOO_MANY, "|-");
        Scripts.does("a", "*{.,}", 300, Caretline.TOO_MANY, "|a >a");
        Scripts.does("a", "*{.,@0}@1", 300, Caretline.TOO_MANY, "|a -");
        Scripts.does("a", Texts.repeat(".,", 150), 300, 0, "|a >a");
        Caretline line = new Caretline();
        Texts.run(line, "*{@0}");
        Check.same("each script has its own 300", Texts.run(line, "*{@0}"), 300);
        Check.same("acts()", line.acts(), 600);
        Check.same("undoable()", line.undoable(), 50);
    }

    private static void mostActsLeaveNoRefusal() {
        Caretline line = new Caretline();
        Texts.run(line, "20{15{@0}}.");
        Check.same("the end by 300 acts is no refusal", line.refusals(Caretline.NO_ELEMENT), 0);
        Texts.run(line, "20{15{@0}}*{-}");
        Check.same("also in a *", line.refusals(Caretline.NO_STATE), 0);
        Check.same("endedBy()", line.endedBy(), Caretline.TOO_MANY);
        Texts.run(line, "+a 20{20{20{*{,}*{,}}}}");
        Check.same("refused acts do not count among 300", line.refusals(Caretline.NO_ELEMENT), 16000);
    }

    private static void deepest() {
        Scripts.does("", "2{2{2{2{@0}}}}", 16, 0, "|-");
        Scripts.does("a b", "*{*{*{*{.}}}}+x", 3, 0, " a b x|-");
        Scripts.does("", "1{1{1{1{}}}}1{1{1{1{+a}}}}", 1, 0, " a|-");
        Scripts.does("", "20{20{20{20{}}}}+a", 1, 0, " a|-");
        Scripts.does("", "1{}" + Texts.repeat("1{}", 98) + "+a", 1, 0, " a|-");
    }
}
