import java.nio.charset.StandardCharsets;

/** A reader on which a test tries texts; it counts the answers that are not the ones due. */
final class Desk {
    private static int wrong = 0;
    private static int asked = 0;
    final ProofReader reader = new ProofReader();

    /** Compares an answer with the one that is due. */
    static void due(String call, long got, long want) {
        asked++;
        if (got != want) {
            wrong++;
            System.out.println(call + " answered " + got + ", due is " + want);
        }
    }

    static void due(String call, String got, String want) {
        asked++;
        if (!got.equals(want)) {
            wrong++;
            System.out.println(call + " answered " + got + ", due is " + want);
        }
    }

    /** Ends the test, with exit code 1 if an answer was wrong. */
    static void end() {
        System.out.println(asked + " answers, " + wrong + " wrong");
        if (wrong != 0) {
            System.exit(1);
        }
    }

    static String repeat(String s, int times) {
        return s.repeat(times);
    }

    Desk feed(String text) {
        byte[] bytes = text.getBytes(StandardCharsets.ISO_8859_1);
        for (int i = 0; i < bytes.length; i += 8) {
            int n = Math.min(8, bytes.length - i);
            long eight = 0;
            for (int j = 0; j < n; j++) {
                eight |= (bytes[i + j] & 255L) << (8 * j);
            }
            reader.feed(n, eight);
        }
        return this;
    }

    /** A text without faults that has so many sentences. */
    Desk reads(int sentences, String text) {
        feed(text);
        due("read of " + text, reader.read(), sentences);
        due("fault of " + text, reader.fault(), 0);
        due("place of " + text, reader.place(), ProofReader.NONE);
        return this;
    }

    /** A text with a fault, whose place is marked by a ^ before it. */
    Desk fails(int fault, String marked) {
        int place = marked.indexOf('^');
        String text = marked.replace("^", "");
        feed(text);
        due("read of " + marked, reader.read(), ProofReader.NONE);
        due("fault of " + marked, reader.fault(), fault);
        due("place of " + marked, reader.place(), place);
        return this;
    }

    /** A text that is read and prints this, with a newline behind it, on the wiped paper. */
    Desk prints(String printed, String text) {
        reader.wipe();
        feed(text);
        due("read of " + text, reader.read() != ProofReader.NONE ? 1 : 0, 1);
        due("fault of " + text, reader.fault(), 0);
        due("paper of " + text, paper(), printed + "\n");
        return this;
    }

    /** What is on the paper. */
    String paper() {
        StringBuilder s = new StringBuilder();
        for (int i = 0; i < reader.printed(); i++) {
            s.append((char) (reader.paper(i) & 255));
        }
        return s.toString();
    }

    /** What constant(k, 0 .. 5) answer. */
    Desk tells(int k, int... answers) {
        for (int what = 0; what < answers.length; what++) {
            due("constant(" + k + ", " + what + ")", reader.constant(k, what), answers[what]);
        }
        return this;
    }
}
