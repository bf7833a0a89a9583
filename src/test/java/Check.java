/** Counts wrong answers and prints each one; what the tests share. */
final class Check {
    interface Call {
        void make();
    }

    private static int made;
    private static int wrong;
    private static int sentences;
    private static String sentence = "";

    private Check() {
    }

    /** The checks behind this call are of this sentence of the document (a remark in brackets tells which case). */
    static void sentence(String words) {
        sentences++;
        sentence = words;
    }

    static void same(String what, long got, long due) {
        made++;
        if (got != due) {
            tellWrong(what + " answered " + got + ", due is " + due);
        }
    }

    static void same(String what, double got, double due) {
        made++;
        if (Double.compare(got, due) != 0) {
            tellWrong(what + " answered " + got + ", due is " + due);
        }
    }

    static void same(String what, String got, String due) {
        made++;
        if (!got.equals(due)) {
            tellWrong(what + " answered \"" + got + "\", due is \"" + due + "\"");
        }
    }

    static void isTrue(String what, boolean got) {
        made++;
        if (!got) {
            tellWrong(what + " does not hold");
        }
    }

    static void isFalse(String what, boolean got) {
        isTrue("not " + what, !got);
    }

    /** The very class is wanted: what the Java machine throws may be a subclass of what is due. */
    static void isThrown(String what, Class<? extends RuntimeException> due, Call call) {
        made++;
        try {
            call.make();
            tellWrong(what + " threw nothing, due is " + due.getSimpleName());
        } catch (RuntimeException e) {
            if (e.getClass() != due) {
                tellWrong(what + " threw " + e.getClass().getSimpleName() + ", due is " + due.getSimpleName());
            }
        }
    }

    static void isNoArgument(String what, Call call) {
        isThrown(what, IllegalArgumentException.class, call);
    }

    static void isNoIndex(String what, Call call) {
        isThrown(what, IndexOutOfBoundsException.class, call);
    }

    private static void tellWrong(String text) {
        wrong++;
        if (wrong <= 40) {
            System.out.println(sentence.isEmpty() ? text : "\"" + sentence + "\": " + text);
        }
    }

    static void finish() {
        String of = sentences == 0 ? "" : " of " + sentences + " sentences";
        System.out.println(made + " checks" + of + ", " + wrong + " wrong");
        if (wrong != 0) {
            System.exit(1);
        }
    }
}
