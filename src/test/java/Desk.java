import java.nio.charset.StandardCharsets;

/** A reader on which a test tries texts; it counts the answers that are not the ones due. */
final class Desk {
    /** Nothing is promised of an object behind so many calls. */
    private static final int MOST_CALLS = 512;

    private static int wrong = 0;
    private static int asked = 0;
    private final ProofReader reader = new ProofReader();
    private int calls = 0;
    private boolean endless = false;

    /** Compares an answer with the one that is due. */
    static void due(String call, long got, long want) {
        asked++;
        if (got != want) {
            wrong++;
            System.out.println(call + " answered " + got + ", due is " + want);
        }
    }

    static void due(String call, String got, String want) {
        asked++;
        if (!got.equals(want)) {
            wrong++;
            System.out.println(call + " answered " + got + ", due is " + want);
        }
    }

    /** Ends the test, with exit code 1 if an answer was wrong. */
    static void end() {
        System.out.println(asked + " answers, " + wrong + " wrong");
        if (wrong != 0) {
            System.exit(1);
        }
    }

    static String repeat(String s, int times) {
        return s.repeat(times);
    }

    /** The head on so many arguments, one in the other, around the innermost one. */
    static String nest(String head, int times, String inner) {
        return times == 0 ? inner : (head + " (").repeat(times - 1) + head + " " + inner + ")".repeat(times - 1);
    }

    /** Lets a test go on behind the calls of which something is promised. */
    Desk endless() {
        endless = true;
        return this;
    }

    private ProofReader call() {
        calls++;
        if (calls == MOST_CALLS + 1 && !endless) {
            wrong++;
            System.out.println("a test makes more calls than an object is used for");
        }
        return reader;
    }

    int feed(int n, long bytes) {
        return call().feed(n, bytes);
    }

    int read() {
        return call().read();
    }

    int fault() {
        return call().fault();
    }

    int place() {
        return call().place();
    }

    int clear() {
        return call().clear();
    }

    int constants() {
        return call().constants();
    }

    int constant(int k, int what) {
        return call().constant(k, what);
    }

    int printed() {
        return call().printed();
    }

    long paper(int i) {
        return call().paper(i);
    }

    int wipe() {
        return call().wipe();
    }

    /** What feed() throws, or the number that it answers. */
    String feedThrows(int n, long bytes) {
        try {
            return Integer.toString(feed(n, bytes));
        } catch (RuntimeException e) {
            return e.getClass().getSimpleName();
        }
    }

    /** What constant() throws, or the number that it answers. */
    String constantThrows(int k, int what) {
        try {
            return Integer.toString(constant(k, what));
        } catch (RuntimeException e) {
            return e.getClass().getSimpleName();
        }
    }

    Desk feed(String text) {
        byte[] bytes = text.getBytes(StandardCharsets.ISO_8859_1);
        for (int i = 0; i < bytes.length; i += 8) {
            int n = Math.min(8, bytes.length - i);
            long eight = 0;
            for (int j = 0; j < n; j++) {
                eight |= (bytes[i + j] & 255L) << (8 * j);
            }
            feed(n, eight);
        }
        return this;
    }

    /** A text without faults that has so many sentences. */
    Desk reads(int sentences, String text) {
        feed(text);
        due("read of " + text, read(), sentences);
        due("fault of " + text, fault(), 0);
        due("place of " + text, place(), ProofReader.NONE);
        return this;
    }

    /** A text with a fault, whose place is marked by a ^ before it. */
    Desk fails(int fault, String marked) {
        int place = marked.indexOf('^');
        String text = marked.replace("^", "");
        feed(text);
        due("read of " + marked, read(), ProofReader.NONE);
        due("fault of " + marked, fault(), fault);
        due("place of " + marked, place(), place);
        return this;
    }

    /** A text that is read and prints this, with a newline behind it, on the wiped paper. */
    Desk prints(String printed, String text) {
        wipe();
        feed(text);
        due("read of " + text, read() != ProofReader.NONE ? 1 : 0, 1);
        due("fault of " + text, fault(), 0);
        due("paper of " + text, paper(), printed + "\n");
        return this;
    }

    /** What is on the paper. */
    String paper() {
        StringBuilder s = new StringBuilder();
        int printed = printed();
        for (int i = 0; i < printed; i += 8) {
            long eight = paper(i);
            for (int j = i; j < i + 8 && j < printed; j++) {
                s.append((char) (eight & 255));
                eight >>>= 8;
            }
        }
        return s.toString();
    }

    /** What constant(k, 0 .. 5) answer. */
    Desk tells(int k, int... answers) {
        for (int what = 0; what < answers.length; what++) {
            due("constant(" + k + ", " + what + ")", constant(k, what), answers[what]);
        }
        return this;
    }

    /** All that calls which change nothing tell of the object. */
    String state() {
        StringBuilder s = new StringBuilder(paper());
        s.append(' ').append(fault()).append(' ').append(place()).append(' ').append(constants());
        for (int k = constants() - 1; k >= 0; k--) {
            for (int what = 0; what <= 5; what++) {
                s.append(' ').append(constant(k, what));
            }
        }
        return s.toString();
    }
}
