import java.util.NoSuchElementException;

/** What the tests share: answers that are due, exceptions that are due, and loading a text. */
final class Due {
    private static int wrong = 0;
    private static String about = "";

    private Due() {
    }

    static void is(String what, long got, long want) {
        if (got != want) {
            fail(what + " answered " + got + ", due is " + want);
        }
    }

    static void yes(String what, boolean got) {
        is(what, got ? 1 : 0, 1);
    }

    static void no(String what, boolean got) {
        is(what, got ? 1 : 0, 0);
    }

    /** The very class counts: an exception of the machine is below IndexOutOfBoundsException, too. */
    static void outThrown(String what, Class<? extends RuntimeException> want, Runnable call) {
        try {
            call.run();
            fail(what + " threw nothing, due is " + want.getSimpleName());
        } catch (RuntimeException e) {
            if (e.getClass() != want) {
                fail(what + " threw " + e + ", due is " + want.getSimpleName());
            }
        }
    }

    /** What each failure from here on is told with. */
    static void about(String what) {
        about = what;
    }

    static void noIndex(String what, Runnable call) {
        outThrown(what, IndexOutOfBoundsException.class, call);
    }

    static void noState(String what, Runnable call) {
        outThrown(what, IllegalStateException.class, call);
    }

    static void noArgument(String what, Runnable call) {
        outThrown(what, IllegalArgumentException.class, call);
    }

    static void noElement(String what, Runnable call) {
        outThrown(what, NoSuchElementException.class, call);
    }

    static void fail(String message) {
        wrong++;
        if (wrong <= 20) {
            System.out.println(about + message);
        }
    }

    static boolean isClean() {
        return wrong == 0;
    }

    static void end() {
        if (wrong != 0) {
            System.out.println(wrong + " answers are not as due");
            System.exit(1);
        }
    }

    /** Appends a text, filled up with bytes that no setup text may have, so that a wrong length shows. */
    static int appended(WindyTours x, String text) {
        int length = 0;
        for (int from = 0; from < text.length(); from += 20) {
            length = x.append(word(text, from), word(text, from + 4), word(text, from + 8),
                    word(text, from + 12), word(text, from + 16));
        }
        return length;
    }

    private static int word(String text, int from) {
        int word = 0;
        for (int i = from; i < from + 4; i++) {
            word = word << 8 | (i < text.length() ? text.charAt(i) & 255 : '#');
        }
        return word;
    }

    static int loaded(WindyTours x, String text) {
        appended(x, text);
        return x.load(text.length());
    }

    static WindyTours with(String text) {
        WindyTours x = new WindyTours();
        int answer = loaded(x, text);
        if (answer < 0) {
            fail("the text is refused with " + answer + " at " + x.errorOffset() + ": " + text);
        }
        return x;
    }

    static WindyTours right(String text, int edges) {
        WindyTours x = new WindyTours();
        is("load of '" + text + "'", loaded(x, text), edges);
        is("errorOffset of '" + text + "'", x.errorOffset(), -1);
        return x;
    }

    static void wrong(String text, int code, int offset) {
        WindyTours x = new WindyTours();
        is("load of '" + text + "'", loaded(x, text), code);
        is("errorOffset of '" + text + "'", x.errorOffset(), offset);
    }

    /** The error is at the sign !, which is not in the text itself. */
    static void wrongAt(String marked, int code) {
        wrong(marked.replace("!", ""), code, marked.indexOf('!'));
    }

    /** Numbers that are no index of a row of this size. */
    static int[] outside(int count) {
        return new int[] {-1, count, count + 1, 1 << 28, Integer.MIN_VALUE, Integer.MAX_VALUE};
    }
}
