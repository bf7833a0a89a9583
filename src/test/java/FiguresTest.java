/** Promises 36 to 41: the figures and second ways. */
public final class FiguresTest {
    public static void main(String[] args) {
        constants();
        refusals();
        acts();
        meanLetters();
        caretShare();
        agreement();
        Check.finish();
    }

    private static void constants() {
        Check.same("NONE", Caretline.NONE, -1);
        Check.same("NO_ELEMENT", Caretline.NO_ELEMENT, -2);
        Check.same("NO_STATE", Caretline.NO_STATE, -3);
        Check.same("NO_INDEX", Caretline.NO_INDEX, -4);
        Check.same("FULL", Caretline.FULL, -5);
        Check.same("TOO_MANY", Caretline.TOO_MANY, -6);
    }

    private static void refusals() {
        Caretline line = Texts.filled(Texts.repeat("a ", 100), 0);
        line.previous();
        line.swap();
        line.find(2, false);
        line.find(1, true);
        line.remove();
        line.set(1);
        line.set(2);
        line.move(101);
        line.add(1);
        line.add(2);
        Texts.run(line, "*{,}*{-}*{=a}*{@101}*{@999}*{@200}*{+a}*{%}>b");
        Check.same("refusals(NO_ELEMENT)", line.refusals(Caretline.NO_ELEMENT), 7);
        Check.same("refusals(NO_STATE)", line.refusals(Caretline.NO_STATE), 5);
        Check.same("refusals(NO_INDEX)", line.refusals(Caretline.NO_INDEX), 4);
        Check.same("refusals(FULL)", line.refusals(Caretline.FULL), 3);
        line.clear();
        Check.same("they stay behind a clear", line.refusals(Caretline.FULL), 3);
        int[] noKinds = {Caretline.NONE, 0, 1, 2, Caretline.TOO_MANY, -7, Integer.MAX_VALUE, Integer.MIN_VALUE};
        for (int kind : noKinds) {
            Check.isNoArgument("refusals(" + kind + ")", () -> line.refusals(kind));
        }
    }

    private static void acts() {
        Caretline line = new Caretline();
        line.add(1);
        line.previous();
        line.previous();
        line.set(2);
        line.next();
        line.remove();
        line.undo();
        line.undo();
        Check.same("acts()", line.acts(), 5);
        Texts.run(line, "@0 3{+a} *{.}");
        Check.same("acts() with those of a script", line.acts(), 10);
        Texts.fill(line, "a b");
        line.clear();
        line.write();
        Check.same("fill() and clear() are no acts", line.acts(), 10);
    }

    private static void meanLetters() {
        Caretline line = new Caretline();
        Check.same("meanLetters() without words", line.meanLetters(), 0.0);
        Texts.fill(line, "a bcdefg");
        Check.same("meanLetters() of two", line.meanLetters(), 3.5);
        Texts.fill(line, "aa bcd efgh");
        Check.same("meanLetters() of three", line.meanLetters(), 3.0);
        Texts.fill(line, "a b cc");
        Check.same("meanLetters() of thirds", line.meanLetters(), 4.0 / 3.0);
        Texts.fill(line, "z zz zzz zzzz zzzzz zzzzzz aaaaaa");
        Check.same("meanLetters() of seven", line.meanLetters(), 27.0 / 7.0);
        line.clear();
        Check.same("meanLetters() behind a clear", line.meanLetters(), 0.0);
    }

    private static void caretShare() {
        Caretline line = new Caretline();
        Check.same("caretShare() without words", line.caretShare(), 0.0f);
        Texts.fill(line, "a b c");
        Check.same("caretShare() at the beginning", line.caretShare(), 0.0f);
        line.next();
        Check.same("caretShare() of a third", line.caretShare(), 1.0f / 3.0f);
        line.next();
        Check.same("caretShare() of two thirds", line.caretShare(), 2.0f / 3.0f);
        line.next();
        Check.same("caretShare() at the end", line.caretShare(), 1.0f);
    }

    private static void agreement() {
        Caretline line = new Caretline();
        Check.isTrue("agree() of a new object", line.agree());
        Texts.run(line, "20{+ab+c,=xyz.%}<c-@3*{>c-}*{.}+z");
        Check.isTrue("agree() behind a script", line.agree());
        for (int i = 0; i < 60; i++) {
            line.undo();
            Check.isTrue("agree() behind an undo", line.agree());
        }
        Texts.fill(line, Texts.repeat("ab ", 100));
        Check.isTrue("agree() of a full line", line.agree());
        line.add(1);
        line.clear();
        Check.isTrue("agree() behind a clear", line.agree());
        Check.same("errors()", line.errors(), 0);
    }
}
