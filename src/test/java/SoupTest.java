import java.util.Random;

/** Texts that mean nothing: whatever they say, calls answer within their bounds and never throw. */
public final class SoupTest {
    private static final String[] TOKENS = {"a", "c", "t", "q", "e", "g", "x", "y", "type", "->", ":", ".", "(", ")",
        "{", "}", "[", "]", "=", "?", "{x:", "[x]", "[y]", "(a -> a)", "a ->", "t (", "g ([x]", ". ? g ([x] t x x).", "$", "n1", "n2"};
    private static final String BASE = "a : type. c : a. t : a -> a -> a. q : a -> type. e : {x:a} q x. g : (a -> a) -> a.";

    public static void main(String[] args) {
        Random random = new Random(20261115);
        for (int run = 0; run < 3000; run++) {
            soup(random);
        }
        deepest();
        same();
        Desk.end();
    }

    private static void soup(Random random) {
        Desk d = new Desk().reads(6, BASE);
        for (int i = 0; i < 8; i++) {
            StringBuilder s = new StringBuilder(random.nextBoolean() ? "? " : "k" + i + " : ");
            for (int n = random.nextInt(40); n > 0; n--) {
                s.append(TOKENS[random.nextInt(TOKENS.length)]).append(random.nextInt(4) == 0 ? "" : " ");
            }
            int before = d.constants();
            d.feed(s.toString());
            int read = d.read();
            int fault = d.fault();
            Desk.due("a fault or none", fault >= 0 && fault <= 11 ? 1 : 0, 1);
            Desk.due("NONE with a fault alone", read == -1 ? 1 : 0, fault != 0 ? 1 : 0);
            Desk.due("the place is in the text", d.place() >= (fault == 0 ? -1 : 0) && d.place() <= s.length() ? 1 : 0, 1);
            Desk.due("constants stay", d.constants() >= before ? 1 : 0, 1);
        }
    }

    /** All that can be open is open, in each way, and the text is as long as it can be. */
    private static void deepest() {
        for (String open : new String[] {"(", "{x:", "[x]", "a -> ", "{x:a}", "t c (", "t (", "g ([x] ", "q (t (", "a -> (", "({x:a}", "{x:(", "c ->"}) {
            for (String start : new String[] {"b : ", "? ", "b : a = ", "b : {x:a} q x = [x] e "}) {
                for (int times = 18; times < 44; times++) {
                    Desk d = new Desk();
                    d.feed(BASE + start + open.repeat(times) + "c" + ")".repeat(times) + ".");
                    Desk.due("read of " + start + open, d.read() <= 7 ? 1 : 0, 1);
                    d.feed(start + open.repeat(times) + "c" + "}".repeat(times) + ".");
                    Desk.due("read of " + start + open, d.read() <= 7 ? 1 : 0, 1);
                }
            }
        }
    }

    /** The same calls give the same answers, on a used object behind clear(), too. */
    private static void same() {
        Random random = new Random(7);
        Desk used = new Desk().endless();
        for (int run = 0; run < 200; run++) {
            used.clear();
            Desk fresh = new Desk();
            StringBuilder s = new StringBuilder(BASE).append("? g ([x] x). k : {x:a}");
            for (int n = random.nextInt(30); n > 0; n--) {
                s.append(TOKENS[random.nextInt(TOKENS.length)]).append(' ');
            }
            used.feed(s.toString());
            fresh.feed(s.toString());
            Desk.due("read of " + s, used.read(), fresh.read());
            Desk.due("fault of " + s, used.fault(), fresh.fault());
            Desk.due("place of " + s, used.place(), fresh.place());
            Desk.due("paper of " + s, used.paper(), fresh.paper());
        }
    }
}
