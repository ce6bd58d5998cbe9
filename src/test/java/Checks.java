import java.nio.charset.StandardCharsets;

/** What the tests share: counting wrong answers, and teaching a garden from a text. */
final class Checks {
    static final int ISE = 1;
    static final int IAE = 2;
    static final int IOOBE = 3;

    private static int wrong = 0;
    private static int looked = 0;
    private static String about = "";

    private Checks() {
    }

    /** What the following answers are about; it stands ahead of each that is wrong. */
    static void about(String name) {
        about = name.isEmpty() ? "" : "[" + name + "] ";
    }

    static int wrongSoFar() {
        return wrong;
    }

    static int lookedSoFar() {
        return looked;
    }

    interface Call {
        void make();
    }

    static void due(String what, long got, long want) {
        looked++;
        if (got != want) {
            wrong++;
            System.out.println(about + what + " answered " + got + ", due is " + want);
        }
    }

    static void due(String what, boolean got, boolean want) {
        due(what, got ? 1 : 0, want ? 1 : 0);
    }

    static void dueMean(String what, double got, double want) {
        looked++;
        if (got != want) {
            wrong++;
            System.out.println(about + what + " answered " + got + ", due is " + want);
        }
    }

    /** The call has to throw the very class that the document names, and to change nothing. */
    static void dueThrow(String what, HedgeNews garden, int exception, Call call) {
        long before = garden.digest();
        int got = 0;
        try {
            call.make();
        } catch (RuntimeException e) {
            got = numberOf(e);
        }
        due(what + " throws (1 IllegalState, 2 IllegalArgument, 3 IndexOutOfBounds, 0 nothing, -1 another)", got, exception);
        due("digest() behind " + what, garden.digest(), before);
    }

    private static int numberOf(RuntimeException e) {
        if (e.getClass() == IllegalStateException.class) {
            return ISE;
        }
        if (e.getClass() == IllegalArgumentException.class) {
            return IAE;
        }
        return e.getClass() == IndexOutOfBoundsException.class ? IOOBE : -1;
    }

    /** Puts a text behind what the tape holds already. */
    static void write(HedgeNews garden, int sizeBefore, String text) {
        byte[] bytes = text.getBytes(StandardCharsets.ISO_8859_1);
        int whole = (bytes.length + 19) / 20 * 20;
        byte[] padded = new byte[whole];
        System.arraycopy(bytes, 0, padded, 0, bytes.length);
        for (int i = 0; i < whole; i += 20) {
            garden.feed(four(padded, i), four(padded, i + 4), four(padded, i + 8), four(padded, i + 12), four(padded, i + 16));
        }
        garden.trim(sizeBefore + bytes.length);
    }

    private static int four(byte[] bytes, int at) {
        return (bytes[at] & 255) << 24 | (bytes[at + 1] & 255) << 16 | (bytes[at + 2] & 255) << 8 | (bytes[at + 3] & 255);
    }

    static int teach(HedgeNews garden, String text) {
        write(garden, 0, text);
        return garden.teach();
    }

    static HedgeNews taught(String text) {
        HedgeNews garden = new HedgeNews();
        due("teach() of " + text, teach(garden, text), 0);
        due("errorAt() of " + text, garden.errorAt(), -1);
        return garden;
    }

    /** The text has to have this error at this position. */
    static void dueError(String text, int error, int position) {
        HedgeNews garden = new HedgeNews();
        due("teach() of " + text, teach(garden, text), error);
        due("errorAt() of " + text, garden.errorAt(), position);
    }

    /** The text has to have this error at the place of the sign ^ in it, which is taken out of it. */
    static void dueErrorAtMark(String marked, int error) {
        int position = marked.indexOf('^');
        dueError(marked.substring(0, position) + marked.substring(position + 1), error, position);
    }

    static void finish(String test) {
        System.out.println(test + ": " + looked + " answers looked at, " + wrong + " wrong");
        if (wrong != 0 || looked == 0) {
            System.exit(1);
        }
    }
}
