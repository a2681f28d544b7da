/**
 * The sentences of the terms that name a boundary, each at the last input within it and at the
 * first one beyond, with the fault and its place.
 */
public final class TermBoundTest {
    private static final String NAME_BYTES = "abcdefghijklmnopqrstuvwxyzABCDEFGHIJKLMNOPQRSTUVWXYZ0123456789_'";
    private static final String SINGLES = ":.(){}[]=?";

    public static void main(String[] args) {
        bytesOfTokens();
        bytesThatPartTokens();
        arrows();
        namesOf12();
        namesDifferInAnyByte();
        theNameType();
        ordersOfFirstParts();
        ordersOfFirstPartsFarOff();
        constantsUpTo48();
        openUpTo40();
        openUpTo40InQuestions();
        openUpTo40InProofs();
        openInFirstParts();
        closedCountsNoMore();
        nodesUpTo300();
        nodesUpTo300InProofs();
        nodesOfTypesUpTo300();
        leastNumber();
        leastNumberOf48Constants();
        tokensBeforeChecking();
        textEnds();
        argumentsUpToTheProducts();
        functionsUpToTheProducts();
        typesUpTo300Nodes();
        typesUpTo300NodesOfEachSentence();
        typesUpTo300NodesOnTheWay();
        paperUpTo4096();
        paperUpTo4096ByOneQuestion();
        paperAndConstants();
        numbersOfVariables();
        lastConstant();
        variablesOfEachLevel();
        placesInParentheses();
        Desk.end();
    }

    private static Desk desk() {
        return new Desk().reads(6, "a : type. c : a. f : a -> a. t : a -> a -> a. q : a -> type. p : a -> a -> type.");
    }

    /** An application of so many nodes, which only checking refuses beyond three. */
    private static String flat(int nodes) {
        return "t" + Desk.repeat(" c", nodes - 1);
    }

    /** An object of so many nodes. */
    private static String object(int nodes) {
        return nodes % 2 == 0 ? "f (" + object(nodes - 1) + ")" : Desk.nest("t c", nodes / 2, "c");
    }

    /** A type of so many nodes, from 291 to 350, of a family r with 30 arguments. */
    private static String large(int nodes) {
        return "r" + Desk.repeat(" (" + object(10) + ")", 29) + " (" + object(nodes - 291) + ")";
    }

    private static Desk largeDesk() {
        return desk().reads(1, "r : " + Desk.repeat("a -> ", 30) + "type.");
    }

    /** Each byte in a name, as a token or between two. */
    private static void bytesOfTokens() {
        for (char b = 0; b < 256; b++) {
            Desk d = new Desk();
            if (NAME_BYTES.indexOf(b) >= 0) {
                d.reads(1, "a" + b + "b : type.").reads(1, b + " : a" + b + "b.");
            } else if (b <= 32) {
                d.fails(2, "a" + b + "^b : type.").reads(1, b + "a" + b + ":" + b + "type" + b + "." + b);
            } else if (b == ':') {
                d.fails(3, "a:^b : type.");
            } else if (SINGLES.indexOf(b) >= 0) {
                d.fails(2, "a^" + b + "b : type.");
            } else if (b == '^') {
                d.feed("a^b : type.");
                Desk.due("read()", d.read(), -1);
                Desk.due("fault()", d.fault(), 1);
                Desk.due("place()", d.place(), 1);
            } else {
                d.fails(1, "a^" + b + "b : type.").fails(1, "^" + b).fails(1, "a : type^" + b);
            }
        }
    }

    private static void bytesThatPartTokens() {
        String[] tokens = {"e", ":", "{", "x", ":", "a", "}", "q", "(", "t", "x", "c", ")", "->", "a", "->", "type", "."};
        for (char b = 0; b <= 32; b++) {
            desk().reads(1, String.join("" + b, tokens)).tells(6, 1, 3, 10, 1, 0, -1);
        }
        desk().reads(1, "e:{x:a}q(t x c)->a->type.").tells(6, 1, 3, 10, 1, 0, -1);
        desk().fails(1, "e : a ^!.").fails(1, "e : a ^\u00a0 -> a.").fails(1, "e : a ^\u0080.").fails(1, "e : a ^\u00ff.");
    }

    private static void arrows() {
        desk().reads(1, "e : a->a.").fails(1, "g : a ^- > a.").fails(1, "g : a ^-- a.").fails(1, "g : a ^-").fails(1, "g : a ^-.").fails(1, "^-");
        desk().fails(1, "g : a^-\0> a.").fails(1, "g : a ^> a.").fails(1, "g : a -> ^> a.").fails(2, "g : a -> ^-> a.").fails(1, "g : a -> ^-a.");
        desk().fails(2, "g : a ->^").fails(2, "^->").fails(1, "? c ^-");
    }

    /** 12 at most, wherever a name stands. */
    private static void namesOf12() {
        String most = "abcdefghijkl";
        for (String name : new String[] {most, "ABCDEFGHIJKL", "012345678901", "____________", "''''''''''''", "typetypetype"}) {
            Desk d = desk().reads(1, name + " : a.").reads(1, "b : q " + name + ".").prints("a", "? " + name + ".").prints("q " + name, "? b.");
            d.reads(1, "e : {" + name + ":a} q " + name + ".").reads(1, "g : a -> a = [" + name + "] f " + name + ".");
        }
        for (String name : new String[] {most + "m", most + "0", most + "'", "typetypetypet", "'" + most, Desk.repeat("x", 24), Desk.repeat("y", 1200)}) {
            Desk d = desk().reads(2, most + " : a. " + "typetypetype : a.").fails(1, "^" + name + " : a.").fails(1, "b : ^" + name + ".");
            d = desk().fails(1, "b : q ^" + name + ".").fails(1, "? (^" + name + ").");
            d = desk().fails(1, "b : {^" + name + ":a} a.").fails(1, "b : a -> a = [^" + name + "] c.");
        }
        desk().reads(1, most + ":a.").fails(1, "b : a.  ^" + most + "m").reads(1, "? t " + most + "(" + most + ").");
        // what stands behind it parts it
        desk().reads(1, most + ":{" + most + ":a}q(" + most + ").").fails(1, "b : q " + most + "^$");
    }

    private static void namesDifferInAnyByte() {
        String name = "abcdefghijkl";
        for (int length = 1; length <= 12; length++) {
            Desk d = new Desk().reads(1, name.substring(0, length) + " : type.").fails(4, "^" + name.substring(0, length) + " : type.");
            for (int i = 0; i < length; i++) {
                d.reads(1, name.substring(0, i) + "Z" + name.substring(i + 1, length) + " : type.");
            }
            for (int shorter = 1; shorter < length; shorter++) {
                d.reads(1, name.substring(0, shorter) + " : type.");
            }
            Desk.due("constants()", d.constants(), 2 * length);
        }
    }

    private static void theNameType() {
        desk().fails(2, "^type : a.").fails(2, "b : {^type:a} a.").fails(2, "b : a -> a = [^type] c.").reads(1, "b : type.");
        desk().reads(6, "typ : a. types : a. type' : a. _type : a. Type : a. TYPE : a.").reads(1, "b : {type1:a} q type1.");
    }

    /** The first parts of products in second parts have the order 0 or 1. */
    private static void ordersOfFirstParts() {
        String[] zero = {"a", "q c", "((a))"};
        String[] one = {"a -> a", "{x:a} q x", "a -> a -> a", "{x:a}{y:q x} p x x", "(a) -> (a -> (a))"};
        String[] two = {"(^a -> a) -> a", "{x:^{y:a} a} a", "a -> (^a -> a) -> a", "{x:a}{y:(^q x -> a)} q x", "(^a -> a) -> q c -> a", "a -> a -> a -> ((^a -> a) -> a)"};
        for (String end : new String[] {"a", "type", "a -> type", "(a -> a) -> q c"}) {
            Desk d = desk();
            for (int i = 0; i < zero.length; i++) {
                d.reads(1, "z" + i + " : (" + zero[i] + ") -> " + end + ".");
            }
            for (int i = 0; i < one.length; i++) {
                d.reads(1, "o" + i + " : {z:" + one[i] + "}" + end + ".").reads(1, "n" + i + " : a -> (" + one[i] + ") -> " + end + ".");
            }
            for (String first : two) {
                desk().fails(7, "b : {z:" + first + "}" + end + ".").fails(7, "b : a -> (" + first + ") -> " + end + ".");
                desk().fails(7, "b : (a -> a) -> (((" + first + "))) -> " + end + " = c.");
            }
        }
    }

    private static void ordersOfFirstPartsFarOff() {
        desk().reads(1, "b : " + Desk.repeat("a -> ", 38) + "(a -> a) -> a.").tells(6, 0, 39, 81, 2, 0, 0);
        desk().fails(7, "b : " + Desk.repeat("a -> ", 36) + "((^a -> a) -> a) -> a.");
        desk().reads(1, "b : (" + Desk.repeat("a -> ", 38) + "a) -> a.").tells(6, 0, 1, 79, 2, 0, 0);
        desk().fails(7, "b : (" + Desk.repeat("a -> ", 36) + "(^a -> a) -> a) -> a.");
        // before it is checked, but not before what stands to the left
        desk().fails(7, "b : ((^c -> c) -> a) -> a.").fails(6, "b : (^c -> (a -> a) -> a) -> a.").fails(6, "b : ^c -> ((a -> a) -> a) -> a.");
    }

    /** Fault 4: there are 48 constants. */
    private static void constantsUpTo48() {
        for (String last : new String[] {"k : a.", "k : type.", "k : a = c2."}) {
            Desk d = told(47).reads(1, last);
            Desk.due("constants()", d.constants(), 48);
            d.fails(4, "^n : a.").fails(4, "  ^n").fails(4, "^n : a = c2.").fails(4, "? c3. ^n : a.").fails(4, "^k : a.").fails(4, "^a : type.");
            Desk.due("constants()", d.constants(), 48);
            d.reads(2, "? c2. ? c46.");
            Desk.due("clear()", d.clear(), 48);
            d.reads(1, "n : type.");
        }
        Desk d = told(46).fails(4, "k : a. l : a. ^n : a.");
        Desk.due("constants()", d.constants(), 48);
        // a variable is no constant
        told(46).reads(2, "g : (a -> a) -> a. k : a.").reads(1, "? g ([new] new).");
    }

    /** A family a, and so many constants in all. */
    private static Desk told(int count) {
        StringBuilder s = new StringBuilder("a:type.");
        for (int i = 1; i < count; i++) {
            s.append('c').append(i).append(":a.");
        }
        return new Desk().reads(count, s.toString());
    }

    /** Fault 5: the 41st that is open, of each kind behind 40 of each. */
    private static void openUpTo40() {
        String[] marked = {"^{x:a}", "^[x]", "^(", "a ^-> "};
        for (String outer : marked) {
            for (String inner : marked) {
                String forty = Desk.repeat(outer.replace("^", ""), 40);
                desk().fails(5, "b : " + forty + inner + "a");
                String within = forty.substring(forty.length() / 40) + inner + "a";
                String closed = within + Desk.repeat(")", within.replaceAll("[^(]", "").length()) + ".";
                if (outer.equals("^[x]")) {
                    desk().fails(6, "b : ^" + closed.replace("^", ""));
                } else if (inner.equals("^[x]")) {
                    desk().fails(6, "b : " + closed);
                } else {
                    desk().reads(1, "b : " + closed.replace("^", ""));
                }
            }
        }
    }

    private static void openUpTo40InQuestions() {
        String forty = Desk.repeat("(", 40);
        desk().prints("a", "? " + forty + "t c c" + Desk.repeat(")", 40) + ".").fails(5, "? " + forty + "^(t c c");
        desk().fails(5, "? " + forty + "^{x:a}").fails(5, "? " + forty + "^[x]").fails(5, "? " + forty + "c ^-> c").fails(5, "? " + forty + "f ^(c)");
        desk().prints("a", "? " + Desk.nest("f", 41, "c") + ".").fails(5, "? " + Desk.repeat("f (", 40) + "f ^(c");
        desk().fails(6, "? ^c -> " + Desk.repeat("c -> ", 39) + "c.").fails(5, "? " + Desk.repeat("c -> ", 40) + "c ^-> c.");
    }

    private static void openUpTo40InProofs() {
        String type = Desk.repeat("a -> ", 40) + "a = ";
        desk().reads(1, "b : " + type + Desk.repeat("[x]", 40) + "f x.").fails(5, "d : " + type + Desk.repeat("[x]", 40) + "f ^(x).");
        desk().fails(5, "b : " + type + Desk.repeat("[x]", 40) + "^[x]").fails(5, "b : " + type + Desk.repeat("[x]", 40) + "x ^-> x");
        desk().reads(1, "b : a -> a = [x] " + Desk.repeat("(", 39) + "x" + Desk.repeat(")", 39) + ".");
        desk().fails(5, "b : a -> a = [x] " + Desk.repeat("(", 39) + "^(x");
        desk().fails(5, "b : a = " + Desk.repeat("{x:a}", 40) + "^{x:a}").fails(6, "b : a = ^" + Desk.repeat("{x:a}", 40) + "c.");
    }

    /** A { is open in its first part. */
    private static void openInFirstParts() {
        String forty = Desk.repeat("{x:", 40);
        desk().fails(5, "b : " + forty + "^{x:").fails(5, "b : " + forty + "^(a").fails(5, "b : " + forty + "a ^-> a").fails(5, "b : " + forty + "^[x] a");
        desk().fails(7, "b : {x:{x:^" + Desk.repeat("{x:", 38) + "a" + Desk.repeat("} a", 40) + ".");
        desk().reads(1, "b : " + Desk.repeat("{x:a}", 38) + "{x:a -> a} a.").fails(5, "d : " + Desk.repeat("{x:a}", 39) + "{x:a ^-> a} a.");
        desk().reads(1, "b : " + Desk.repeat("{x:a -> a}", 39) + "{x:a} a.").fails(5, "d : " + Desk.repeat("{x:a -> a}", 39) + "{x:a ^-> a} a.");
    }

    private static void closedCountsNoMore() {
        desk().reads(1, "b : " + Desk.repeat("({x:a}a) -> ", 38) + "a.").fails(5, "d : " + Desk.repeat("({x:a}a) -> ", 39) + "(^{x:a} a) -> a.");
        desk().reads(1, "b : " + Desk.repeat("(a -> a) -> ", 39) + "a.").fails(5, "d : " + Desk.repeat("(a -> a) -> ", 39) + "(a ^-> a) -> a.");
        desk().reads(2, "g : (a -> a) -> a. b : a = " + Desk.nest("t (g ([x] x))", 38, "c") + ".");
        desk().reads(1, "g : (a -> a) -> a.").fails(5, "b : a = " + Desk.repeat("t (g ([x] x)) (", 38) + "t (g (^[x] x)) c");
        desk().fails(8, "? f (c) (^c)" + Desk.repeat(" (c)", 60) + ".");
    }

    /** Fault 5: the token of the 301st node, whichever kind it has. */
    private static void nodesUpTo300() {
        String more = "? t c c ^c" + Desk.repeat(" c", 295);
        desk().fails(8, more + " c.").fails(5, "? " + flat(300) + " ^c.");
        desk().fails(8, more + " (c).").fails(5, "? " + flat(300) + " (((^c))).");
        desk().fails(8, more + " type.").fails(5, "? " + flat(300) + " ^type.");
        desk().fails(5, "? " + flat(299) + " ({x:^c} c).").fails(5, "? " + flat(300) + " (^{x:c} c).");
        desk().fails(5, "? " + flat(299) + " ([x] ^c).").fails(5, "? " + flat(300) + " (^[x] c).");
        desk().fails(5, "? " + flat(299) + " -> ^c.").fails(5, "? " + flat(300) + " ^-> c.");
        desk().fails(8, "? t c c ^c" + Desk.repeat(" c", 293) + " ([x] x).").fails(5, "? " + flat(298) + " ([x] f ^x).");
        desk().fails(5, "? " + flat(298) + " (c -> ^c).").fails(6, "? (^" + flat(298) + ") -> c.");
    }

    /** The expressions of a sentence are counted one by one. */
    private static void nodesUpTo300InProofs() {
        largeDesk().reads(1, "e : " + large(300) + ".").reads(1, "g : " + large(300) + " = e.").tells(8, 0, 0, 300, 0, 1, 6);
        Desk d = desk().reads(1, "s : " + Desk.repeat("a -> ", 30) + "a.");
        String args = Desk.repeat(" (" + object(10) + ")", 28);
        d.reads(1, "b : a -> a = [x] s" + args + " (" + object(10) + ") (f (" + object(7) + ")).").tells(7, 0, 1, 3, 1, 1, 0);
        d.fails(5, "d : a -> a = [x] s" + args + " (" + object(10) + ") (f (f (" + Desk.nest("t c", 3, "^c") + "))).");
    }

    private static void nodesOfTypesUpTo300() {
        largeDesk().reads(1, "e : " + large(300) + ".").tells(7, 0, 0, 300, 0, 0, 6);
        largeDesk().fails(5, "e : " + large(301).replaceAll("c(\\)+)$", "^c$1") + ".");
        largeDesk().reads(1, "e : " + large(298) + " -> type.").tells(7, 1, 1, 300, 1, 0, -1);
        largeDesk().fails(5, "e : " + large(299) + " -> ^type.").fails(5, "e : " + large(300) + " ^-> type.");
        largeDesk().reads(1, "e : {x:a} " + large(298) + ".").tells(7, 0, 1, 300, 1, 0, 6).fails(5, "g : {x:a} {x:a}" + large(297).replaceAll("c(\\)+)$", "^c$1"));
        largeDesk().reads(1, "e : " + large(300) + ".").prints(large(300), "? e.");
    }

    /** Of several faults at one token the least number. */
    private static void leastNumber() {
        String forty = Desk.repeat("(", 40);
        // 1 and 2, 3, 5
        desk().fails(1, "b ^$").fails(1, "b : a ^$").fails(1, "b ^abcdefghijklm").fails(1, "? ^abcdefghijklm.").fails(1, "b : (a) ^abcdefghijklm");
        desk().fails(1, "? " + flat(300) + " ^abcdefghijklm.").fails(1, "? " + flat(300) + " ^-.").fails(1, "? " + forty + "^$").fails(1, "? " + forty + "c ^-");
        // 2 and 3
        desk().fails(2, "b : (a) ^z.").fails(2, "b : type ^z.").fails(2, "b ^z : a.").fails(2, "b : {x:a ^= z");
        // 2 and 5, of what is open
        desk().fails(2, "? " + forty + "type ^(").fails(2, "? " + forty + "c ^{x:a}").fails(2, "? " + forty + "c ^[x]").fails(2, "? " + forty + "^->");
        desk().fails(2, "? " + Desk.repeat("[x]", 40) + "^->").fails(2, "b : " + Desk.repeat("{x:a}", 40) + "type ^(");
        desk().fails(2, "b : " + Desk.repeat("a -> ", 40) + "type ^[x]").fails(2, "b : " + Desk.repeat("{x:", 40) + "^->");
        // 2 and 5, of nodes
        desk().fails(2, "b : (" + flat(300) + ") ^type").fails(2, "b : (" + flat(300) + ") ^c").fails(2, "? " + flat(300) + " ^[x] c");
        desk().fails(2, "b : (" + flat(298) + ") -> type ^c").fails(2, "? " + flat(300) + " ^{x:a}").fails(2, "? " + flat(298) + " (type ^c");
        // 3 and 5
        desk().fails(3, "? " + flat(300) + " ^x.").fails(3, "? " + flat(300) + " (^x).").fails(3, "? " + forty + "^x").fails(3, "? " + flat(299) + " (c) ^x");
    }

    private static void leastNumberOf48Constants() {
        told(48).fails(1, "^abcdefghijklm : a.").fails(2, "^type : a.").fails(2, "^: a.").fails(1, "^$").fails(2, "^(").fails(4, "^new $");
        told(48).fails(4, "^new").fails(4, "^c47 $").fails(3, "? ^new.").fails(2, "^.").fails(2, "? ^.");
    }

    /** A fault by the tokens of a sentence comes before one by checking, one of a sentence before. */
    private static void tokensBeforeChecking() {
        desk().fails(2, "b : c -> type -> ^.").fails(3, "b : [x] a = ^z.").fails(1, "b : c ^$").fails(5, "b : c = " + Desk.repeat("(", 40) + "^(");
        desk().fails(6, "b : ^c. $").fails(6, "b : ^c. a : a.").fails(8, "? c ^c. $").fails(6, "b : ^c.$").fails(9, "b : q c = ^c.:");
        desk().fails(3, "b : ^b. $").fails(2, "b : a = c ^= $").fails(4, "^a : c -> $").fails(4, "b : a. ^b : type = c.");
    }

    /** The place of the text's end is the number of its bytes. */
    private static void textEnds() {
        for (String half : new String[] {"b", "b :", "b : a", "b : a ->", "b : {", "b : {x", "b : {x :", "b : {x : a", "b : {x : a}", "b : (", "b : (a", "b : (a)",
            "b : a =", "b : a = c", "b : a -> a = [", "b : a -> a = [x", "b : a -> a = [x]", "?", "? t", "? t c (", "? t c (c)"}) {
            desk().fails(2, half + "^").fails(2, half + "\n \0^").fails(2, "? c." + half + "^").fails(2, Desk.repeat(" ", 99) + half + "^");
        }
        desk().reads(1, "b : a.").reads(1, "? b. \n").reads(0, "\n");
    }

    /** Fault 8: too few, and an argument where T is no product. */
    private static void argumentsUpToTheProducts() {
        for (int n : new int[] {1, 2, 3, 20, 40}) {
            String all = Desk.repeat(" c", n);
            String few = Desk.repeat(" c", n - 1);
            Desk d = desk().reads(2, "g : " + Desk.repeat("a -> ", n) + "a. h : " + Desk.repeat("a -> ", n) + "type.");
            d.prints("a", "? g" + all + ".").prints("{x0:a}a", "? g" + few + ".").fails(8, "? g" + all + " ^c.");
            d.reads(1, "k : a = g" + all + ".").fails(8, "l : a = ^g" + few + ".").fails(8, "l : a = ^g.").fails(8, "l : a = g" + all + " ^c.");
            d.reads(1, "l : h" + all + ".").fails(8, "m : ^h" + few + ".").fails(8, "m : ^h.").fails(8, "m : h" + all + " ^c.");
            d.reads(1, "m : q (g" + all + ").").fails(8, "n : q (^g" + few + ").").fails(8, "n : q (g" + all + " ^c).");
        }
        desk().prints("a", "? c.").fails(8, "? c ^c.").reads(1, "b : a.").fails(8, "d : a ^c.").reads(1, "d : a = c.").fails(8, "e : a = c ^c.");
    }

    /** Fault 8: a function against no product, an application against a product. */
    private static void functionsUpToTheProducts() {
        for (int n : new int[] {1, 2, 3, 20, 39}) {
            String type = Desk.repeat("a -> ", n) + "a";
            Desk d = desk().reads(1, "g : (" + type + ") -> a.");
            d.reads(1, "k : " + type + " = " + Desk.repeat("[x]", n) + "c.").fails(8, "l : " + type + " = " + Desk.repeat("[x]", n - 1) + "^c.");
            d.fails(8, "l : " + type + " = " + Desk.repeat("[x]", n) + "^[x] c.").fails(8, "l : " + type + " = ^k.").fails(8, "l : " + type + " = ^f type.");
            d.prints("a", "? g (" + Desk.repeat("[x]", n) + "c).").fails(8, "? g (" + Desk.repeat("[x]", n - 1) + "^c).");
        }
        desk().reads(1, "b : a = c.").fails(8, "d : a = ^[x] c.").fails(8, "? f (^[x] c).").fails(8, "b1 : {x:a} q x -> q x = [x][u] ^[v] u.");
    }

    /** Fault 10: 33 F that become nine f each are 297 nodes, with p, c and another c 300. */
    private static void typesUpTo300Nodes() {
        String many = Desk.nest("F", 33, "c");
        String nine = "([x] " + Desk.nest("f", 9, "x") + ")";
        Desk d = desk().reads(2, "b : {F:a -> a} p (" + many + ") c. d : {F:a -> a} p (" + many + ") (f c).");
        d.prints("p (" + Desk.nest("f", 297, "c") + ") c", "? b " + nine + ".").fails(10, "? d (^" + nine.substring(1) + ".");
        // 36 F that become eight f each, p and c are 290 nodes: the second argument has the others
        String eight = "([x] " + Desk.nest("f", 8, "x") + ")";
        d = desk().reads(1, "e : {F:a -> a}{y:a} p (" + Desk.nest("F", 36, "c") + ") y.");
        d.prints("p (" + Desk.nest("f", 288, "c") + ") (" + object(10) + ")", "? e " + eight + " (" + object(10) + ").");
        d.fails(10, "? e " + eight + " (^" + object(11) + ").");
    }

    private static void typesUpTo300NodesOfEachSentence() {
        // {u: q (37 F that become eight f each)} and TYPE or a: 300 nodes
        String eight = "[x] " + Desk.nest("f", 8, "x");
        String many = Desk.nest("F", 37, "c");
        Desk d = desk().reads(2, "g : {F:a -> a} q (" + many + ") -> type. h : {F:a -> a} p (" + many + ") c -> type.");
        d.fails(8, "b : ^g (" + eight + ").").fails(10, "b : h (^" + eight + ").").fails(10, "b : a -> h ((^" + eight + ")) c.");
        d = desk().reads(2, "g : {F:a -> a} q (" + many + ") -> a. h : {F:a -> a} p (" + many + ") c -> a.");
        d.fails(8, "b : a = ^g (" + eight + ").").fails(10, "b : a = h (^" + eight + ").").fails(10, "? f (h (^" + eight + ")).");
        d.fails(8, "? f (^g (" + eight + ")).");
        // a variable as the head: p, f and twice 149 nodes, or one f more
        d = desk().fails(9, "b : ({y:a} p y (f y)) -> a = [u] ^u (" + tree(149) + ").");
        d.fails(10, "b : ({y:a} p (f y) (f y)) -> a = [u] u (^" + tree(149) + ").");
    }

    /** An object of so many nodes that does not nest deep; an odd number. */
    private static String tree(int nodes) {
        int left = nodes / 4 * 2 + 1;
        return nodes == 1 ? "c" : "t (" + tree(left) + ") (" + tree(nodes - 1 - left) + ")";
    }

    private static void typesUpTo300NodesOnTheWay() {
        // too large behind the first argument, small behind the second
        String many = Desk.nest("F", 37, "c");
        String eight = "[x] " + Desk.nest("f", 8, "x");
        Desk d = desk().reads(3, "w : q (" + Desk.nest("f", 37, "c") + "). g : {F:a -> a} q (" + many + ") -> a. h : {F:a -> a} q (" + many + ") -> q c.");
        d.prints("a", "? g ([x] f x) w.").fails(10, "? h (^" + eight + ") w.").fails(9, "? g (" + eight + ") ^w.");
        d.prints("{x0:q (" + Desk.nest("f", 296, "c") + ")}a", "? g (" + eight + ").");
    }

    /** Fault 11: what is printed does not fit on the paper; then nothing of it is printed. */
    private static void paperUpTo4096() {
        String base = "abcdefghijkl : type. b : abcdefghijkl. a : type. c : a. aa : type. d : a -> a -> a. e : a -> a -> aa.";
        Desk d = new Desk().reads(7, base).reads(314, Desk.repeat("?b.", 314));
        Desk.due("printed()", d.printed(), 4082);
        // 14 bytes are left: {x0:a}{x1:a}aa and its end are 15, {x0:a}{x1:a}a and its end 14
        d.fails(11, "^? e.");
        Desk.due("printed()", d.printed(), 4082);
        Desk.due("paper(4082)", d.paper(4082), 0);
        Desk.due("paper(4081)", d.paper(4081), 0x0aL);
        Desk.due("paper(4089)", d.paper(4089), 0);
        d.reads(1, "? d.");
        Desk.due("printed()", d.printed(), 4096);
        Desk.due("paper(4082)", d.paper(4082), 0x787b7d613a30787bL);
        Desk.due("paper(4088)", d.paper(4088), 0x0a617d613a31787bL);
        d.fails(11, "^? c.").fails(11, "^? (c).");
        Desk.due("wipe()", d.wipe(), 4096);
        d.prints("a", "? c.");
        // one byte is left
        Desk e = new Desk().reads(4, "abcdefghijkl : type. b : abcdefghijkl. a : type. c : a.").reads(315, Desk.repeat("?b.", 315));
        Desk.due("printed()", e.printed(), 4095);
        e.fails(11, "   ^? c.");
        Desk.due("printed()", e.printed(), 4095);
        Desk.due("paper(4095)", e.paper(4095), 0);
        // two bytes are left
        Desk g = new Desk().reads(6, "abcdefghijkl : type. b : abcdefghijkl. abcdefghijk : type. d : abcdefghijk. a : type. c : a.");
        g.reads(315, Desk.repeat("?b.", 314) + "?d.");
        Desk.due("printed()", g.printed(), 4094);
        g.fails(11, "^? b.").reads(1, "? c.").fails(11, "^? c.");
        Desk.due("printed()", g.printed(), 4096);
        Desk.due("paper(4094)", g.paper(4094), 0x0a61L);
    }

    /** 272 f of 15 bytes each, with ( ) and a blank, are 4080 of the bytes. */
    private static void paperUpTo4096ByOneQuestion() {
        String f = "abcdefghijkl";
        String c = "cccccccccccc";
        String many = Desk.nest("F", 16, c);
        String f17 = "([x] " + Desk.nest(f, 17, "x") + ")";
        Desk d = new Desk().reads(5, "a:type." + c + ":a." + f + ":a -> a. qq:a -> type. b:{F:a -> a} qq (" + many + ").").reads(1, "? b " + f17 + ".");
        Desk.due("printed()", d.printed(), 4096);
        Desk.due("paper(4088)", d.paper(4088), 0x0a29292929292929L);
        Desk.due("paper(0)", d.paper(0), 0x6463626128207171L);
        d.fails(11, "^? b ([x] x).");
        Desk e = new Desk().reads(5, "a:type." + c + ":a." + f + ":a -> a. qqq:a -> type. b:{F:a -> a} qqq (" + many + ").").fails(11, "^? b " + f17 + ".");
        Desk.due("printed()", e.printed(), 0);
        Desk.due("paper(0)", e.paper(0), 0);
        e.prints("qqq " + c, "? b ([x] x).");
    }

    /** A question that does not fit is a fault like others: what stands before it is read. */
    private static void paperAndConstants() {
        Desk d = new Desk().reads(2, "abcdefg : type. c : abcdefg.").reads(511, Desk.repeat("?c.", 511));
        d.fails(11, "d : abcdefg. ? d. e : abcdefg. ^? e. g : abcdefg.");
        Desk.due("constants()", d.constants(), 4);
        Desk.due("printed()", d.printed(), 4096);
        d.reads(1, "g : abcdefg.").fails(6, "? ^abcdefg.").fails(8, "? c ^c.").fails(11, "^? c.");
        Desk.due("wipe()", d.wipe(), 4096);
        d.prints("abcdefg", "? g.");
    }

    /** Printing: numbers of one, two and three figures. */
    private static void numbersOfVariables() {
        StringBuilder type = new StringBuilder();
        for (int i = 0; i < 40; i++) {
            type.append("{x").append(i).append(":a}");
        }
        desk().prints(type + "p x9 x10", "b : " + type + "p x9 x10. ? b.");
        // nine F that become 29 functions each, one in the other
        String most = Desk.repeat("a -> ", 29) + "a";
        Desk d = desk().reads(2, "al : (" + most + ") -> a. b : {F:a -> a} q (" + Desk.nest("F", 9, "c") + ").");
        d.prints("q (" + functions(0, "c") + ")", "? b ([y] al (" + Desk.repeat("[z]", 29) + "t z y)).");
        d.prints("q (" + Desk.nest("f", 9, "c") + ")", "? b ([y] f y).");
    }

    /** Nine times 29 functions around t, with the variable of the last one, and the next ones. */
    private static String functions(int level, String end) {
        if (level == 9 * 29) {
            return end;
        }
        StringBuilder s = new StringBuilder("al (");
        for (int i = level; i < level + 29; i++) {
            s.append("[x").append(i).append(']');
        }
        String rest = functions(level + 29, end);
        return s.append("t x").append(level + 28).append(rest.equals(end) ? " " + end : " (" + rest + ")").append(")").toString();
    }

    /** The 48th constant is no variable, nor is the first variable a constant. */
    private static void lastConstant() {
        told(47).reads(1, "k : {x:a} a = [x] x.").tells(47, 0, 1, 3, 1, 1, 0).prints("{x0:a}a", "? k.").prints("a", "? k (k c1).").fails(8, "? k (^k).").fails(8, "? k c1 ^k.");
        told(47).reads(1, "k : type.").tells(47, 1, 0, 1, 0, 0, -1).fails(6, "? ^k.").fails(6, "? ^k c1.");
        told(47).fails(6, "k : {x:a} ^x.").fails(6, "k : {x:^c46} a.").reads(1, "k : a = c46.").prints("a", "? k.");
    }

    /** A variable is no type, and has its own type, however many are around it. */
    private static void variablesOfEachLevel() {
        for (int level = 0; level < 39; level++) {
            String before = Desk.repeat("{y:a}", level);
            desk().fails(6, "b : " + before + "{x:a} ^x.").fails(6, "b : " + before + "{x:a}" + Desk.repeat("{y:a}", 38 - level) + "^x.");
            Desk d = desk().reads(2, "b : q c. e : " + before + "{x:q c}" + Desk.repeat("{y:a}", 39 - level) + "q c = "
                    + Desk.repeat("[y]", level) + "[x]" + Desk.repeat("[y]", 39 - level) + "x.");
            d.fails(9, "g : " + before + "{x:q c}" + Desk.repeat("{y:a}", 39 - level) + "q c = "
                    + Desk.repeat("[y]", level) + "[x]" + Desk.repeat("[y]", 39 - level) + "^y.");
        }
    }

    /** The first token of what is wrong: of S -> F that of S, of ( ) that in it. */
    private static void placesInParentheses() {
        desk().fails(6, "b : ((^[x] a)).").fails(6, "b : q (((^type))).").fails(6, "b : q ((((^a) -> a) -> a)).").fails(6, "? ((^{x:a} a)).");
        desk().fails(6, "b : ((((^type))) -> a).").fails(7, "b : (((((^a) -> a))) -> a) -> a.").fails(8, "? f c (((^f c))).");
        desk().fails(8, "? f (((^[x] x))).").fails(8, "b : (((^q))).").fails(9, "b : q (f c) = ((^c)).").fails(9, "b : q c = (((^f c))).");
        desk().fails(8, "b : a -> a = ((^f)).").fails(8, "b : a -> a = ((^t c)).");
    }
}
