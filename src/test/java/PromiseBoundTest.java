/**
 * The sentences of the promises 1 to 11 that name a boundary, each at the last input within it and
 * at the first one beyond.
 */
public final class PromiseBoundTest {
    private static final int NONE = ProofReader.NONE;
    private static final int MIN = Integer.MIN_VALUE;
    private static final int MAX = Integer.MAX_VALUE;
    private static final String ARGUMENT = "IllegalArgumentException";
    private static final String INDEX = "IndexOutOfBoundsException";
    private static final long BLANKS = 0x2020202020202020L;

    public static void main(String[] args) {
        newObject();
        newObjectsAreApart();
        feedTakesOneToEight();
        feedRefusesOthers();
        feedThatThrowsChangesNothing();
        feedUpTo8192();
        feedOf8192IsRead();
        feedBoundCountsSinceClear();
        feedThatAnswersNoneChangesNothing();
        longestTextOfAllCalls();
        readOfNothing();
        readCounts();
        readEmptiesTheText();
        readKeepsWhatIsBeforeTheFault();
        faultsFromOneToEleven();
        faultStays();
        faultEndsWithTheNextRead();
        placeFromZeroToTheEnd();
        clear();
        clearOfNothing();
        clearGivesRoomAnew();
        constantsUpTo48();
        constantOfEachNumber();
        constantOfEachWhat();
        constantOfBothWrong();
        constantThatThrowsChangesNothing();
        constantProducts();
        constantNodes();
        constantOrders();
        constantProved();
        constantHeads();
        printedUpTo4096();
        paperBeforeItsFirstByte();
        paperBehindItsLastByte();
        paperWhenFull();
        paperWithoutOldBytes();
        paperOfFarPlaces();
        wipe();
        Desk.end();
    }

    /** Promise 1. */
    private static void newObject() {
        Desk d = new Desk();
        Desk.due("fault()", d.fault(), 0);
        Desk.due("place()", d.place(), NONE);
        Desk.due("constants()", d.constants(), 0);
        Desk.due("printed()", d.printed(), 0);
        for (int i = -9; i <= 9; i++) {
            Desk.due("paper(" + i + ")", d.paper(i), 0);
        }
        for (int what = 0; what <= 5; what++) {
            Desk.due("constant(0, " + what + ")", d.constantThrows(0, what), INDEX);
        }
        Desk.due("wipe()", d.wipe(), 0);
        Desk.due("clear()", d.clear(), 0);
        Desk.due("feed(1, ' ')", new Desk().feed(1, ' '), 1);
        Desk.due("read()", new Desk().read(), 0);
        new Desk().fails(3, "c : ^a.");
    }

    private static void newObjectsAreApart() {
        Desk one = new Desk().reads(3, "a : type. c : a. ? c.").fails(3, "b : ^d.");
        one.feed("x");
        Desk two = new Desk();
        Desk.due("constants()", two.constants(), 0);
        Desk.due("printed()", two.printed(), 0);
        Desk.due("fault()", two.fault(), 0);
        Desk.due("feed(1, ' ')", two.feed(1, ' '), 1);
        two.reads(1, "c : type.");
        one.clear();
        Desk.due("constants()", two.constants(), 1);
        Desk.due("constants()", one.constants(), 0);
    }

    /** Promise 2: the n lowest bytes, the lowest first; those above them are no part of the text. */
    private static void feedTakesOneToEight() {
        String name = "abcdefgh";
        for (int n = 1; n <= 8; n++) {
            long bytes = 0;
            for (int i = 0; i < 8; i++) {
                bytes |= (long) (i < n ? name.charAt(i) : '$') << (8 * i);
            }
            Desk d = new Desk();
            Desk.due("feed(" + n + ")", d.feed(n, bytes), n);
            Desk.due("feed(1, ':')", d.feed(1, ':'), n + 1);
            d.reads(3, "type. v : " + name.substring(0, n) + ". ? v.");
            Desk.due("what was fed", d.paper(), name.substring(0, n) + "\n");
        }
        Desk d = new Desk();
        Desk.due("feed(8, -1)", d.feed(8, -1L), 8);
        Desk.due("feed(8, MIN)", d.feed(8, Long.MIN_VALUE), 16);
        Desk.due("feed(8, MAX)", d.feed(8, Long.MAX_VALUE), 24);
        Desk.due("feed(1, 0)", d.feed(1, 0), 25);
    }

    private static void feedRefusesOthers() {
        for (int n : new int[] {0, 9, -1, -8, 10, 16, 64, 256, 257, 264, MIN, MIN + 8, MAX}) {
            Desk.due("feed(" + n + ", 97)", new Desk().feedThrows(n, 97), ARGUMENT);
        }
    }

    private static void feedThatThrowsChangesNothing() {
        Desk d = new Desk().reads(3, "a : type. c : a. ? c.").fails(3, "b : ^d.");
        d.feed("? c.");
        String before = d.state();
        Desk.due("feed(0, 97)", d.feedThrows(0, 97), ARGUMENT);
        Desk.due("feed(9, 97)", d.feedThrows(9, 97), ARGUMENT);
        Desk.due("all that can be asked for", d.state(), before);
        Desk.due("feed(1, ' ')", d.feed(1, ' '), 5);
        Desk.due("read()", d.read(), 1);
    }

    private static void feedBlanks(Desk d, int calls) {
        int had = d.feed(1, BLANKS) - 1;
        Desk.due("feed(7)", d.feed(7, BLANKS), had + 8);
        for (int i = 2; i <= calls; i++) {
            Desk.due("feed(8)", d.feed(8, BLANKS), had + 8L * i);
        }
    }

    /** Only more calls than are promised reach this bound. */
    private static void feedUpTo8192() {
        for (int n = 1; n <= 8; n++) {
            Desk d = new Desk().endless();
            feedBlanks(d, 1023);
            if (n < 8) {
                Desk.due("feed of the byte 8192 - n", d.feed(8 - n, BLANKS), 8192 - n);
                Desk.due("feed of the byte 8193", d.feed(n + 1, BLANKS), NONE);
            }
            Desk.due("feed of the byte 8192", d.feed(n, BLANKS), 8192);
            for (int m = 1; m <= 8; m++) {
                Desk.due("feed of the byte 8193", d.feed(m, BLANKS), NONE);
            }
            Desk.due("feed(0)", d.feedThrows(0, BLANKS), ARGUMENT);
            Desk.due("feed(9)", d.feedThrows(9, BLANKS), ARGUMENT);
        }
    }

    private static void feedOf8192IsRead() {
        Desk d = new Desk().endless().feed("a:type. c:a.    " + Desk.repeat("? c.    ", 1021));
        Desk.due("the last bytes", d.feed(8, 0x202e632020203f20L), 8192);
        Desk.due("read()", d.read(), 1024);
        Desk.due("printed()", d.printed(), 2044);
        d.clear();
        d.feed(Desk.repeat(" ", 8184) + "a : type");
        Desk.due("read() of a text without its .", d.read(), NONE);
        Desk.due("fault()", d.fault(), 2);
        Desk.due("place()", d.place(), 8192);
        d.clear();
        d.feed(Desk.repeat(" ", 8184) + "b:type.$");
        Desk.due("read() of a text with a wrong last byte", d.read(), NONE);
        Desk.due("fault()", d.fault(), 1);
        Desk.due("place()", d.place(), 8191);
        Desk.due("constants()", d.constants(), 1);
    }

    private static void feedBoundCountsSinceClear() {
        Desk d = new Desk().endless();
        feedBlanks(d, 600);
        Desk.due("read()", d.read(), 0);
        feedBlanks(d, 424);
        Desk.due("feed of the byte 8193", d.feed(1, BLANKS), NONE);
        Desk.due("read()", d.read(), 0);
        Desk.due("wipe()", d.wipe(), 0);
        Desk.due("feed behind read()", d.feed(1, BLANKS), NONE);
        Desk.due("clear()", d.clear(), 0);
        feedBlanks(d, 1024);
        Desk.due("feed of the byte 8193", d.feed(1, BLANKS), NONE);
    }

    private static void feedThatAnswersNoneChangesNothing() {
        Desk d = new Desk().endless().reads(2, "a : type. c : a.").fails(3, "b :  ^dd.");
        d.feed(Desk.repeat(" ", 8192 - 16 - 8 - 8));
        d.feed("? c. ? c");
        String before = d.state();
        Desk.due("feed of the byte 8193", d.feed(1, '.'), NONE);
        Desk.due("all that can be asked for", d.state(), before);
        Desk.due("read()", d.read(), NONE);
        Desk.due("place()", d.place(), 8192 - 24);
        Desk.due("paper", d.paper(), "a\n");
    }

    /** As much as the calls of which something is promised can feed and ask for. */
    private static void longestTextOfAllCalls() {
        Desk d = new Desk().feed("a:type. c:a.    " + Desk.repeat("?  c  . ", 507));
        Desk.due("read()", d.read(), 509);
        Desk.due("fault()", d.fault(), 0);
        Desk.due("place()", d.place(), NONE);
        Desk e = new Desk().feed("a:type. c:a.    " + Desk.repeat("?  c  . ", 506) + "?  c    ");
        Desk.due("read()", e.read(), NONE);
        Desk.due("fault()", e.fault(), 2);
        Desk.due("place()", e.place(), 509 * 8);
    }

    /** Promise 3. */
    private static void readOfNothing() {
        new Desk().reads(0, "").reads(0, " ").reads(0, "\0").reads(0, Desk.repeat(" \n", 500)).reads(0, "");
    }

    private static void readCounts() {
        Desk d = new Desk().reads(1, "a : type.").reads(1, "c : a.").reads(1, "d : a = c.").reads(1, "? d.");
        d.reads(4, "e : a. f : a = c. ? f. ? e. ").reads(300, Desk.repeat("?c.", 300));
    }

    private static void readEmptiesTheText() {
        Desk d = new Desk().reads(1, "a : type.");
        Desk.due("feed behind read()", d.feed(1, ' '), 1);
        d.feed("b : ");
        Desk.due("read() of half a sentence", d.read(), NONE);
        Desk.due("place()", d.place(), 5);
        Desk.due("feed behind a fault", d.feed(1, 'a'), 1);
        d.feed(".");
        Desk.due("read() of the other half", d.read(), NONE);
        Desk.due("fault()", d.fault(), 4);
        Desk.due("place()", d.place(), 0);
        Desk.due("read() of no text", d.read(), 0);
        // a token is not joined over read(), either
        d.fails(2, "ab^").reads(1, "cd : type.").reads(1, "abcd : cd.");
        // nor does a token reach into what an older text had there
        d.reads(1, "e : a -> a.").fails(1, "g : a ^-").reads(1, "xyz : a.").fails(2, "xy^").reads(1, "? e.").fails(2, "? e^");
        d.feed("g : a -> a.");
        d.clear();
        d.reads(1, "a:type.").fails(1, "g : a ^-");
    }

    private static void readKeepsWhatIsBeforeTheFault() {
        Desk d = new Desk().fails(3, "a : ^b.");
        Desk.due("constants()", d.constants(), 0);
        d.fails(3, "a : type. c : a. ? c. d : a = c. e : ^b. f : a. ? c.");
        Desk.due("constants()", d.constants(), 3);
        Desk.due("paper", d.paper(), "a\n");
        d.tells(2, 0, 0, 1, 0, 1, 0).fails(2, "g : a. ? g. ^.");
        Desk.due("constants()", d.constants(), 4);
        Desk.due("paper", d.paper(), "a\na\n");
    }

    /** Promise 4. */
    private static void faultsFromOneToEleven() {
        Desk d = new Desk().reads(5, "a : type. c : a. f : a -> a. t : a -> a -> a. q : a -> type.");
        d.fails(1, "^$").fails(2, "^:").fails(3, "? ^x.").fails(4, "^a : a.").fails(5, "? " + Desk.repeat("(", 40) + "^(c");
        d.fails(6, "? ^a.").fails(7, "b : ((^a -> a) -> a) -> a.").fails(8, "? c ^c.").fails(9, "b : q c = ^c.");
        d.reads(1, "b : {F:a -> a} q (" + Desk.nest("F", 8, "c") + ").").fails(10, "? b (^[x] t x x).").reads(1, "? c.");
        Desk e = new Desk().reads(2, "abcdefghijkl : type. b : abcdefghijkl.").reads(315, Desk.repeat("?b.", 315)).fails(11, "^? b.");
        e.reads(0, "");
    }

    private static void faultStays() {
        Desk d = new Desk().reads(3, "a : type. c : a. ? c.").fails(3, "b : ^d.");
        faultIs("feed", d.feed(4, 0x2e63203fL), d);
        faultIs("feed", d.feedThrows(9, 0).length(), d);
        faultIs("constants", d.constants(), d);
        faultIs("constant", d.constant(0, 0), d);
        faultIs("constant", d.constantThrows(9, 0).length(), d);
        faultIs("constant", d.constantThrows(0, 9).length(), d);
        faultIs("printed", d.printed(), d);
        faultIs("paper", d.paper(0), d);
        faultIs("fault", d.fault(), d);
        faultIs("place", d.place(), d);
        faultIs("wipe", d.wipe(), d);
        faultIs("clear", d.clear(), d);
        faultIs("clear", d.clear(), d);
    }

    private static void faultIs(String call, long answer, Desk d) {
        Desk.due("fault() behind " + call + ", which answered " + answer, d.fault(), 3);
        Desk.due("place() behind " + call + ", which answered " + answer, d.place(), 4);
    }

    private static void faultEndsWithTheNextRead() {
        Desk d = new Desk().fails(3, "b : ^d.").reads(0, "").fails(3, "b : ^d.").reads(1, "d : type.");
        d.fails(3, "b : ^e.").fails(2, "b ^. ").fails(2, "^.").reads(0, " ");
    }

    /** Promise 5. */
    private static void placeFromZeroToTheEnd() {
        new Desk().fails(1, "^$").fails(2, "^.").fails(1, " ^$").fails(1, "a : type. ^$").fails(2, "b^").fails(2, "b  ^");
        Desk d = new Desk().reads(1, "a : type. ");
        d.fails(1, "^$").fails(3, "b : ^d.").fails(1, Desk.repeat(" ", 3000) + "^$");
    }

    /** Promise 6. */
    private static void clear() {
        Desk d = new Desk().reads(3, "a : type. c : a. ? c.").feed("b : a.");
        Desk.due("clear()", d.clear(), 2);
        Desk.due("constants()", d.constants(), 0);
        Desk.due("constant(0, 0)", d.constantThrows(0, 0), INDEX);
        Desk.due("printed()", d.printed(), 0);
        Desk.due("paper(0)", d.paper(0), 0);
        Desk.due("read()", d.read(), 0);
        Desk.due("feed behind clear()", d.feed(1, ' '), 1);
        Desk.due("clear() of a text", d.clear(), 0);
        d.fails(3, "? ^c.").fails(3, "c : ^a.").reads(2, "c : type. a : c.").tells(0, 1, 0, 1, 0, 0, NONE).tells(1, 0, 0, 1, 0, 0, 0);
        Desk.due("clear() again", d.clear(), 2);
    }

    private static void clearOfNothing() {
        Desk d = new Desk();
        Desk.due("clear()", d.clear(), 0);
        Desk.due("clear()", d.clear(), 0);
        d.reads(1, "a : type.");
        Desk.due("clear()", d.clear(), 1);
        Desk.due("clear()", d.clear(), 0);
    }

    private static void clearGivesRoomAnew() {
        Desk d = new Desk().endless();
        for (int times = 0; times < 3; times++) {
            tell48(d);
            d.reads(1, "? c47.");
            Desk.due("clear() of all", d.clear(), 48);
            d.reads(3, "abcdefghijkl : type. b : abcdefghijkl. ?b.").reads(314, Desk.repeat("?b.", 314)).fails(11, "^?b.");
            Desk.due("clear() of a full paper", d.clear(), 2);
            Desk.due("printed()", d.printed(), 0);
            feedBlanks(d, 1024);
            Desk.due("feed of the byte 8193", d.feed(1, ' '), NONE);
            Desk.due("clear() of a full text", d.clear(), 0);
        }
    }

    private static void tell48(Desk d) {
        StringBuilder s = new StringBuilder("a:type.");
        for (int i = 1; i < 48; i++) {
            s.append('c').append(i).append(":a.");
        }
        d.reads(48, s.toString());
    }

    /** Promise 7. */
    private static void constantsUpTo48() {
        Desk d = new Desk().reads(1, "c0 : type.");
        for (int i = 1; i < 48; i++) {
            Desk.due("constants()", d.constants(), i);
            d.reads(1, "c" + i + ":c0.");
        }
        Desk.due("constants()", d.constants(), 48);
        d.fails(4, "^c48:c0.").reads(1, "?c1.");
        Desk.due("constants()", d.constants(), 48);
    }

    /** Promise 8: there is no constant k. */
    private static void constantOfEachNumber() {
        Desk d = new Desk().reads(1, "a : type.");
        for (int k : new int[] {-1, 1, 2, 47, 48, 49, MIN, MAX}) {
            Desk.due("constant(" + k + ", 0) of 1", d.constantThrows(k, 0), INDEX);
        }
        Desk.due("constant(0, 0) of 1", d.constantThrows(0, 0), "1");
        d.reads(1, "c : a.");
        Desk.due("constant(1, 0) of 2", d.constantThrows(1, 0), "0");
        Desk.due("constant(2, 0) of 2", d.constantThrows(2, 0), INDEX);
        d.clear();
        Desk.due("constant(0, 0) of 0", d.constantThrows(0, 0), INDEX);
        tell48(d);
        Desk.due("constant(47, 2) of 48", d.constantThrows(47, 2), "1");
        for (int k : new int[] {-1, 48, 49, MIN, MAX}) {
            Desk.due("constant(" + k + ", 5) of 48", d.constantThrows(k, 5), INDEX);
        }
    }

    private static void constantOfEachWhat() {
        Desk d = new Desk().reads(1, "a : type.");
        String[] answers = {"1", "0", "1", "0", "0", "-1"};
        for (int what = 0; what <= 5; what++) {
            Desk.due("constant(0, " + what + ")", d.constantThrows(0, what), answers[what]);
        }
        for (int what : new int[] {-1, 6, 7, 256, 261, MIN, MAX}) {
            Desk.due("constant(0, " + what + ")", d.constantThrows(0, what), ARGUMENT);
        }
    }

    /** The exception that the document names first. */
    private static void constantOfBothWrong() {
        Desk d = new Desk();
        Desk.due("constant(0, 6) of none", d.constantThrows(0, 6), ARGUMENT);
        Desk.due("constant(-1, -1) of none", d.constantThrows(-1, -1), ARGUMENT);
        d.reads(1, "a : type.");
        Desk.due("constant(1, 6) of 1", d.constantThrows(1, 6), ARGUMENT);
        Desk.due("constant(MIN, MAX) of 1", d.constantThrows(MIN, MAX), ARGUMENT);
    }

    private static void constantThatThrowsChangesNothing() {
        Desk d = new Desk().reads(3, "a : type. c : a. ? c.").fails(3, "b : ^d.").feed("? c.");
        String before = d.state();
        Desk.due("constant(2, 0)", d.constantThrows(2, 0), INDEX);
        Desk.due("constant(0, 6)", d.constantThrows(0, 6), ARGUMENT);
        Desk.due("constant(0, 5)", d.constantThrows(0, 5), "-1");
        Desk.due("all that can be asked for", d.state(), before);
        Desk.due("feed(1, ' ')", d.feed(1, ' '), 5);
        Desk.due("read()", d.read(), 1);
    }

    private static void constantProducts() {
        Desk d = new Desk().reads(2, "a : type. b : a.").tells(0, 1, 0).tells(1, 0, 0);
        d.reads(2, "c : a -> a. d : a -> type.").tells(2, 0, 1).tells(3, 1, 1);
        // those in first parts do not count
        d.reads(1, "e : (a -> a -> a) -> a.").tells(4, 0, 1).reads(1, "f : (a -> a) -> (a -> a) -> type.").tells(5, 1, 2);
        d.reads(1, "g : " + Desk.repeat("a -> ", 40) + "a.").tells(6, 0, 40, 81, 1).reads(1, "h : " + Desk.repeat("{x:a}", 40) + "type.").tells(7, 1, 40, 81, 1);
        d.fails(5, "i : " + Desk.repeat("a -> ", 40) + "a ^-> a.");
    }

    private static void constantNodes() {
        Desk d = new Desk().reads(4, "a : type. c : (a). t : a -> a -> a. f : a -> a.").tells(0, 1, 0, 1).tells(1, 0, 0, 1).tells(2, 0, 2, 5);
        d.reads(1, "p : " + Desk.repeat("a -> ", 30) + "type.");
        String most = "p" + Desk.repeat(" (t c (t c (t c (t c c))))", 29);
        d.reads(1, "b : " + most + "(" + Desk.nest("f", 37, "c") + ").").tells(5, 0, 0, 300, 0, 0, 4);
        d.fails(5, "e : " + most + "(" + Desk.nest("f", 38, "^c") + ").");
    }

    private static void constantOrders() {
        Desk d = new Desk().reads(2, "a : type. b : a.").tells(0, 1, 0, 1, 0).tells(1, 0, 0, 1, 0);
        d.reads(2, "c : a -> a. d : a -> type.").tells(2, 0, 1, 3, 1).tells(3, 1, 1, 3, 1);
        d.reads(2, "e : (a -> a) -> a. f : (a -> a) -> type.").tells(4, 0, 1, 5, 2).tells(5, 1, 1, 5, 2);
        // the greater one: of the first product, of the last one, of one between them
        d.reads(2, "g : (a -> a) -> a -> a. h : a -> (a -> a) -> a.").tells(6, 0, 2, 7, 2).tells(7, 0, 2, 7, 2);
        d.reads(2, "i : a -> ({x:a} d x) -> a -> type. j : a -> a -> a -> a.").tells(8, 1, 3, 10, 2).tells(9, 0, 3, 7, 1);
        d.fails(7, "k : ((^a -> a) -> a) -> a.");
    }

    private static void constantProved() {
        Desk d = new Desk().reads(4, "a : type. c : a. d : a = c. e : a -> a = [x] x.").tells(0, 1, 0, 1, 0, 0, -1).tells(1, 0, 0, 1, 0, 0, 0);
        d.tells(2, 0, 0, 1, 0, 1, 0).tells(3, 0, 1, 3, 1, 1, 0).reads(1, "f : a.").tells(4, 0, 0, 1, 0, 0, 0);
        d.clear();
        d.reads(3, "a : type. c : a. f : a.").tells(2, 0, 0, 1, 0, 0, 0);
    }

    private static void constantHeads() {
        Desk d = new Desk().reads(2, "a : type. q : a -> type.").tells(0, 1, 0, 1, 0, 0, NONE).tells(1, 1, 1, 3, 1, 0, NONE);
        d.reads(2, "c : a. e : {x:a} q x.").tells(2, 0, 0, 1, 0, 0, 0).tells(3, 0, 1, 4, 1, 0, 1).reads(1, "g : q c -> a.").tells(4, 0, 1, 4, 1, 0, 0);
        StringBuilder s = new StringBuilder();
        for (int k = 5; k < 47; k++) {
            s.append('k').append(k).append(":type.");
        }
        d.reads(42, s.toString()).reads(1, "last : a -> k46.").tells(47, 0, 1, 3, 1, 0, 46);
        // the number of no constant is that of TYPE, not even of the first or the last one
        d.tells(46, 1, 0, 1, 0, 0, NONE);
    }

    /** Promise 9. */
    private static void printedUpTo4096() {
        Desk d = new Desk().reads(2, "abc : type. d : abc.");
        Desk.due("printed()", d.printed(), 0);
        d.reads(1, "?d.");
        Desk.due("printed()", d.printed(), 4);
        d.reads(1022, Desk.repeat("?d.", 1022));
        Desk.due("printed()", d.printed(), 4092);
        d.reads(1, "?d.");
        Desk.due("printed()", d.printed(), 4096);
        d.fails(11, "^?d.");
        Desk.due("printed()", d.printed(), 4096);
    }

    /** Promise 10: 0 for places below 0. */
    private static void paperBeforeItsFirstByte() {
        Desk d = new Desk().reads(3, "abcdefghi : type. c : abcdefghi. ? c.");
        long first = 0x6867666564636261L;
        for (int i = 0; i <= 7; i++) {
            Desk.due("paper(-" + i + ")", d.paper(-i), first << (8 * i));
        }
        Desk.due("paper(-8)", d.paper(-8), 0);
        Desk.due("paper(-9)", d.paper(-9), 0);
        Desk.due("paper(MIN)", d.paper(MIN), 0);
        Desk.due("paper(MIN + 8)", d.paper(MIN + 8), 0);
    }

    private static void paperBehindItsLastByte() {
        Desk d = new Desk().reads(3, "abcdefghi : type. c : abcdefghi. ? c.");
        long last = 0x0a69686766656463L;
        for (int i = 0; i <= 7; i++) {
            Desk.due("paper(" + (2 + i) + ")", d.paper(2 + i), last >>> (8 * i));
        }
        Desk.due("paper(10)", d.paper(10), 0);
        Desk.due("paper(11)", d.paper(11), 0);
    }

    private static void paperWhenFull() {
        Desk d = new Desk().reads(2, "abcdefg : type. c : abcdefg.").reads(512, Desk.repeat("?c.", 512));
        long last = 0x0a67666564636261L;
        Desk.due("printed()", d.printed(), 4096);
        for (int i = 0; i <= 7; i++) {
            Desk.due("paper(" + (4088 + i) + ")", d.paper(4088 + i), last >>> (8 * i));
            Desk.due("paper(-" + i + ")", d.paper(-i), last << (8 * i));
        }
        Desk.due("paper(4096)", d.paper(4096), 0);
        Desk.due("paper(4087)", d.paper(4087), last << 8 | 0x0a);
        Desk.due("paper(8184)", d.paper(8184), 0);
        d.wipe();
        Desk.due("paper(4088)", d.paper(4088), 0);
    }

    /** The paper has no bytes that were wiped, cleared or did not fit. */
    private static void paperWithoutOldBytes() {
        Desk d = new Desk().reads(5, "abcdefghi : type. a : abcdefghi. b : type. c : b. ? a.");
        d.wipe();
        d.reads(1, "? c.");
        Desk.due("printed()", d.printed(), 2);
        Desk.due("paper(0)", d.paper(0), 0x0a62L);
        Desk.due("paper(1)", d.paper(1), 0x0aL);
        Desk.due("paper(2)", d.paper(2), 0);
        d.clear();
        d.reads(3, "x : type. y : x. ? y.");
        Desk.due("paper(0)", d.paper(0), 0x0a78L);
    }

    /** A place that is far behind the paper does not come round to its first byte. */
    private static void paperOfFarPlaces() {
        Desk d = new Desk().reads(3, "abcdefghi : type. c : abcdefghi. ? c.");
        for (int i = 0; i <= 9; i++) {
            Desk.due("paper(MAX - " + i + ")", d.paper(MAX - i), 0);
            Desk.due("paper(MIN + " + i + ")", d.paper(MIN + i), 0);
            Desk.due("paper(65536 + " + i + ")", d.paper(65536 + i), 0);
            Desk.due("paper(4096 + " + i + ")", d.paper(4096 + i), 0);
            Desk.due("paper(-4096 + " + i + ")", d.paper(-4096 + i), 0);
        }
    }

    /** Promise 11. */
    private static void wipe() {
        Desk d = new Desk();
        Desk.due("wipe() of nothing", d.wipe(), 0);
        d.reads(3, "abcdefg : type. c : abcdefg. ? c.").fails(3, "b : ^d.").feed("? c.");
        Desk.due("wipe()", d.wipe(), 8);
        Desk.due("wipe() again", d.wipe(), 0);
        Desk.due("printed()", d.printed(), 0);
        Desk.due("paper(0)", d.paper(0), 0);
        Desk.due("constants()", d.constants(), 2);
        Desk.due("fault()", d.fault(), 3);
        Desk.due("read() of the text", d.read(), 1);
        Desk.due("paper", d.paper(), "abcdefg\n");
        d.reads(511, Desk.repeat("?c.", 511)).fails(11, "^?c.");
        Desk.due("wipe() of a full paper", d.wipe(), 4096);
        d.reads(1, "? c.");
        Desk.due("wipe()", d.wipe(), 8);
    }
}
