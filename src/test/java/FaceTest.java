/** The methods, but for what texts mean: promises 1 to 11. */
public final class FaceTest {
    public static void main(String[] args) {
        newObject();
        feed();
        feedBound();
        read();
        faultStays();
        clear();
        constants();
        constantThrows();
        paper();
        wipe();
        Desk.due("NONE", ProofReader.NONE, -1);
        Desk.end();
    }

    private static void newObject() {
        ProofReader x = new ProofReader();
        Desk.due("fault() of a new object", x.fault(), 0);
        Desk.due("place() of a new object", x.place(), -1);
        Desk.due("constants() of a new object", x.constants(), 0);
        Desk.due("printed() of a new object", x.printed(), 0);
        Desk.due("paper(0) of a new object", x.paper(0), 0);
        Desk.due("wipe() of a new object", x.wipe(), 0);
        Desk.due("clear() of a new object", x.clear(), 0);
        Desk.due("read() of a new object", x.read(), 0);
    }

    private static void feed() {
        ProofReader x = new ProofReader();
        for (int n : new int[] {0, 9, -1, Integer.MIN_VALUE, Integer.MAX_VALUE}) {
            Desk.due("feed(" + n + ", 0) throws", feedThrows(x, n) ? 1 : 0, 1);
        }
        // "b:a" with bytes above it that n leaves out
        Desk.due("feed(1)", x.feed(1, 0x7f7f7f7f7f7f7f61L), 1);
        Desk.due("feed(8)", x.feed(8, 0x2e657079743a3a3aL), 9);
        Desk.due("a text of a::: type. can't be read", x.read(), -1);
        Desk.due("its place", x.place(), 2);
        Desk.due("feed(2) to an empty text", x.feed(2, 0x3a61L), 2);
        Desk.due("feed(5)", x.feed(5, 0x2e65707974L), 7);
        Desk.due("a:type. is read", x.read(), 1);
        Desk.due("feed(3)", x.feed(3, 0xff616161L), 3);
        Desk.due("a feed that throws", feedThrows(x, 12) ? 1 : 0, 1);
        Desk.due("the text stays", x.feed(1, ' '), 4);
        Desk.due("a byte above 127", x.feed(8, -1L), 12);
        x.clear();
        x.feed(8, 0x8080808080808080L);
        Desk.due("bytes above 127 part no tokens", x.read(), -1);
        Desk.due("they are in none", x.fault(), 1);
    }

    private static boolean feedThrows(ProofReader x, int n) {
        try {
            x.feed(n, 0);
            return false;
        } catch (IllegalArgumentException e) {
            return true;
        }
    }

    /** More calls than are promised: nothing but them can reach this bound. */
    private static void feedBound() {
        ProofReader x = new ProofReader();
        int blanks = 0x20202020;
        for (int i = 1; i <= 1023; i++) {
            Desk.due("feed", x.feed(8, blanks), i * 8L - (i > 512 ? 4096 : 0));
            if (i == 512) {
                Desk.due("read of blanks", x.read(), 0);
            }
        }
        Desk.due("feed up to the bound but 1", x.feed(7, blanks), 8191 - 4096);
        Desk.due("feed beyond the bound", x.feed(2, blanks), -1);
        Desk.due("it changes nothing", x.feed(1, blanks), 8192 - 4096);
        Desk.due("feed beyond the bound", x.feed(1, blanks), -1);
        Desk.due("read", x.read(), 0);
        Desk.due("read() gives no room", x.feed(1, blanks), -1);
        x.clear();
        for (int i = 1; i <= 1024; i++) {
            Desk.due("clear() does", x.feed(8, blanks), i * 8L);
        }
        Desk.due("feed beyond the bound", x.feed(1, blanks), -1);
    }

    private static void read() {
        new Desk().reads(0, "").reads(0, " \n\t\0 ").reads(1, "a:type.").reads(2, "b:a.\n?b.\n ");
        Desk d = new Desk();
        d.fails(3, "a : type. b : a. ? b. c : ^d. e : a.");
        Desk.due("what was before the fault is read", d.constants(), 2);
        Desk.due("and printed", d.paper(), "a\n");
        d.reads(1, "e : a.");
        Desk.due("the faulty text is gone", d.constants(), 3);
        d.fails(2, "f : a. g : a^");
        Desk.due("read() of an empty text has no fault", d.read(), 0);
        Desk.due("fault()", d.fault(), 0);
        Desk.due("place()", d.place(), -1);
    }

    private static void faultStays() {
        Desk d = new Desk();
        d.fails(3, "a : ^b.");
        d.feed("a : type.");
        d.wipe();
        d.clear();
        Desk.due("fault() behind clear()", d.fault(), 3);
        Desk.due("place() behind clear()", d.place(), 4);
        Desk.due("the text is gone", d.read(), 0);
        Desk.due("fault() behind read()", d.fault(), 0);
    }

    private static void clear() {
        Desk d = new Desk().endless();
        d.reads(3, "a : type. b : a. ? b.").feed("c : a.");
        Desk.due("clear()", d.clear(), 2);
        Desk.due("constants()", d.constants(), 0);
        Desk.due("printed()", d.printed(), 0);
        Desk.due("paper(0)", d.paper(0), 0);
        Desk.due("feed(1) behind clear()", d.feed(1, ' '), 1);
        Desk.due("clear() again", d.clear(), 0);
        d.fails(3, "b : ^a.");
        d.reads(2, "b : type. a : b.").tells(1, 0, 0, 1, 0, 0, 0);
        // what was told is gone: there is room for as much anew
        for (int i = 0; i < 400; i++) {
            d.clear();
            d.reads(3, "b : type. p : " + Desk.repeat("(b -> b) -> ", 36) + "b. q : " + Desk.repeat("{x:b}", 40) + "b.");
        }
    }

    private static void constants() {
        Desk d = new Desk();
        d.reads(1, "o : type.").tells(0, 1, 0, 1, 0, 0, -1);
        d.reads(1, "imp : o -> o -> o.").tells(1, 0, 2, 5, 1, 0, 0);
        d.reads(1, "nd : o -> type.").tells(2, 1, 1, 3, 1, 0, -1);
        d.reads(1, "all : (o -> o) -> o.").tells(3, 0, 1, 5, 2, 0, 0);
        d.reads(1, "impI : {A:o}{B:o}(nd A -> nd B) -> nd (imp A B).").tells(4, 0, 3, 14, 2, 0, 2);
        d.reads(1, "id : {A:o} nd (imp A A) = [A] impI A A ([u] u).").tells(5, 0, 1, 6, 1, 1, 2);
        d.reads(1, "low : (o -> o) -> type.").tells(6, 1, 1, 5, 2, 0, -1);
        d.reads(1, "both : (o -> o) -> o -> o.").tells(7, 0, 2, 7, 2, 0, 0);
        d.reads(1, "par : ((((o)))).").tells(8, 0, 0, 1, 0, 0, 0);
        Desk.due("constants()", d.constants(), 9);
        d.reads(1, "? id.");
        Desk.due("a question tells none", d.constants(), 9);
        d.reads(1, "far : (o -> o -> o) -> {x:o} low ([y] imp x y) -> nd x.").tells(9, 0, 3, 16, 2, 0, 2);
    }

    private static void constantThrows() {
        Desk d = new Desk();
        d.reads(1, "a : type.");
        Desk.due("constant(0, -1)", d.constantThrows(0, -1), "IllegalArgumentException");
        Desk.due("constant(0, 6)", d.constantThrows(0, 6), "IllegalArgumentException");
        Desk.due("constant(1, 0)", d.constantThrows(1, 0), "IndexOutOfBoundsException");
        Desk.due("constant(-1, 5)", d.constantThrows(-1, 5), "IndexOutOfBoundsException");
        Desk.due("constant(MAX, 0)", d.constantThrows(Integer.MAX_VALUE, 0), "IndexOutOfBoundsException");
        Desk.due("constant(1, 6)", d.constantThrows(1, 6), "IllegalArgumentException");
        d.clear();
        Desk.due("constant(0, 0)", d.constantThrows(0, 0), "IndexOutOfBoundsException");
    }

    private static void paper() {
        Desk d = new Desk();
        d.reads(3, "abcdefgh : type. b : abcdefgh. ? b.");
        Desk.due("printed()", d.printed(), 9);
        Desk.due("paper(0)", d.paper(0), 0x6867666564636261L);
        Desk.due("paper(1)", d.paper(1), 0x0a68676665646362L);
        Desk.due("paper(2)", d.paper(2), 0x000a686766656463L);
        Desk.due("paper(8)", d.paper(8), 0x0aL);
        Desk.due("paper(9)", d.paper(9), 0);
        Desk.due("paper(-1)", d.paper(-1), 0x6766656463626100L);
        Desk.due("paper(-7)", d.paper(-7), 0x6100000000000000L);
        Desk.due("paper(-8)", d.paper(-8), 0);
        Desk.due("paper(MIN)", d.paper(Integer.MIN_VALUE), 0);
        Desk.due("paper(MAX)", d.paper(Integer.MAX_VALUE), 0);
        d.reads(1, "? b.");
        Desk.due("printing comes behind", d.paper(), "abcdefgh\nabcdefgh\n");
    }

    private static void wipe() {
        Desk d = new Desk();
        d.reads(4, "a : type. b : a. ? b. ? b.").feed("? b.");
        Desk.due("wipe()", d.wipe(), 4);
        Desk.due("printed()", d.printed(), 0);
        Desk.due("paper(0)", d.paper(0), 0);
        Desk.due("wipe() again", d.wipe(), 0);
        Desk.due("the text stays", d.read(), 1);
        Desk.due("the constants stay", d.constants(), 2);
        Desk.due("paper(0)", d.paper(0), 0x0a61L);
    }
}
