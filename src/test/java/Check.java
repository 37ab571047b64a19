import java.util.NoSuchElementException;

/** What all tests share: telling texts to an object, and counting answers that are not as due. */
final class Check {
    private static int wrong = 0;
    private static int asked = 0;

    private Check() {
    }

    static void due(String what, long got, long want) {
        asked++;
        if (got != want) {
            wrong++;
            System.out.println(what + " answered " + got + ", due is " + want);
        }
    }

    static void due(String what, boolean got, boolean want) {
        due(what, got ? 1 : 0, want ? 1 : 0);
    }

    static int wrongSoFar() {
        return wrong;
    }

    /** Puts a text on the tape instead of what was there. */
    static void tape(HeathForks x, String text) {
        x.end(0);
        for (int i = 0; i < text.length(); i += 20) {
            x.feed(word(text, i), word(text, i + 4), word(text, i + 8), word(text, i + 12), word(text, i + 16));
        }
    }

    static int word(String text, int from) {
        int word = 0;
        for (int i = from; i < from + 4; i++) {
            word = word << 8 | (i < text.length() ? text.charAt(i) & 255 : 0);
        }
        return word;
    }

    static int tell(HeathForks x, int sort, String text) {
        tape(x, text);
        return x.text(sort);
    }

    static HeathForks heath(String text) {
        HeathForks x = new HeathForks();
        if (tell(x, 0, text) < 1) {
            due("a heath of the test, " + text, 0, 1);
        }
        return x;
    }

    static void fault(int sort, String text, int want) {
        HeathForks x = new HeathForks();
        tape(x, text);
        due("fault(" + sort + ") of '" + text + "'", x.fault(sort), want);
        due("text(" + sort + ") of '" + text + "' is taken", x.text(sort) != HeathForks.NONE, want == HeathForks.NONE);
        due("the tape behind text(" + sort + ") of '" + text + "'", x.count(5), want == HeathForks.NONE ? 0 : text.length());
    }

    static boolean noSuchFork(HeathForks x, int fork, int what) {
        try {
            x.fork(fork, what);
            return false;
        } catch (NoSuchElementException e) {
            return true;
        }
    }

    static void finish(String name) {
        System.out.println(name + ": " + asked + " answers, " + wrong + " not as due");
        if (wrong != 0) {
            System.exit(1);
        }
    }
}
