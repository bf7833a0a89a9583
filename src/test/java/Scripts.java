/** Checks of one script on a new object; what the tests of scripts share. */
final class Scripts {
    private Scripts() {
    }

    /** The script is done upon these words, so far. */
    static void does(String words, String script, int acts, int ending, String state) {
        Caretline line = Texts.filled(words, 0);
        Check.same("run() of \"" + script + "\"", Texts.run(line, script), acts);
        Check.same("endedBy() of \"" + script + "\"", line.endedBy(), ending);
        Check.same("the line behind \"" + script + "\"", Texts.state(line), state);
        Check.same("errorPosition() of \"" + script + "\"", line.errorPosition(), Caretline.NONE);
        Check.same("the tape behind \"" + script + "\"", line.clearTape(), 0);
        Check.same("acts() behind \"" + script + "\"", line.acts(), acts);
    }

    /** The text is no script, and nothing comes of it but its error. */
    static void isError(String script, int place) {
        Caretline line = Texts.filled("a b c", 0);
        Texts.type(line, script);
        Check.isNoArgument("run() of \"" + script + "\"", line::run);
        Check.same("errorPosition() of \"" + script + "\"", line.errorPosition(), place);
        Check.same("endedBy() of \"" + script + "\"", line.endedBy(), 0);
        Check.same("the tape behind \"" + script + "\"", line.clearTape(), 0);
        Check.same("acts() behind \"" + script + "\"", line.acts(), 0);
        Check.same("the line behind \"" + script + "\"", Texts.state(line), "|a b c -");
    }
}
