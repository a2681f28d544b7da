/** What texts are made of, and the faults 1 to 5, each with its place. */
public final class TokenFaultTest {
    public static void main(String[] args) {
        tokens();
        badBytes();
        badTokens();
        textEnds();
        unknownNames();
        takenNames();
        tooManyConstants();
        tooManyOpen();
        tooManyNodes();
        firstMet();
        Desk.end();
    }

    private static Desk desk() {
        return new Desk().reads(3, "a : type. c : a. t : a -> a -> a.");
    }

    private static void tokens() {
        desk().reads(1, "b:a->a->a.").reads(1, "\0\1\37d\n:\t(a)\r.").reads(1, "e:{x:a}a.");
        desk().reads(2, "abcdefghijkl : a. ABCXYZ_'0189 : a.").reads(3, "' : a. _:a. 0 : a.");
        desk().reads(4, "Type : a. type' : a. typ : a. types : a.");
        // names that differ in their last bytes alone
        desk().reads(2, "abcdefgh : a. abcdefghi : a.").reads(2, "abcdefghijk1 : a. abcdefghijk2 : a.");
        desk().reads(1, "b : ((a) -> ((a))).").reads(1, "d : {x:(a)}(a).");
        // each expression reaches as far as it can
        desk().reads(1, "e : a -> {x:a} a -> a = [x][y][z] (t (x) ((t y z))).").tells(3, 0, 3, 7, 1, 1, 0);
    }

    private static void badBytes() {
        for (String b : new String[] {"$", ";", ",", "*", ">", "<", "/", "\\", "\"", "\177", "\200", "\377", "!", "@", "|", "~", "`", "&", "%", "#", "+", "\u00e9"}) {
            desk().fails(1, "b : ^" + b + "a.").fails(1, "^" + b).fails(1, "b^" + b + " : a.").fails(1, "b : a^" + b);
        }
        desk().fails(1, "b : a ^- > a.").fails(1, "b : a ^-a.").fails(1, "b : a ^-").fails(1, "b : a -> a ^--> a.");
        desk().fails(1, "^abcdefghijklm : a.").fails(1, "b : ^aaaaaaaaaaaaaaaaaaaaaaaaaaaaaa.");
        desk().fails(1, "b : {^abcdefghijklm : a} a.").fails(1, "? ^typetypetypet.");
        desk().fails(1, "b : a. ? b. ^$");
    }

    private static void badTokens() {
        for (String t : new String[] {":", ".", "(", ")", "{", "}", "[", "]", "=", "->", "type"}) {
            desk().fails(2, "^" + t);
        }
        desk().fails(2, "b ^b : a.").fails(2, "b ^= a.").fails(2, "b ^.").fails(2, "b ^? a.").fails(2, "b : ^: a.");
        desk().fails(2, "b : ^.").fails(2, "b : ^-> a.").fails(2, "b : ^= c.").fails(2, "b : ^) a.").fails(2, "b : ^} a.");
        desk().fails(2, "b : ^] a.").fails(2, "b : ^? a.").fails(2, "b : a -> ^.").fails(2, "b : a -> ^-> a.");
        desk().fails(2, "b : {^type : a} a.").fails(2, "b : {^(x) : a} a.").fails(2, "b : {x ^a} a.").fails(2, "b : {x ^} a.");
        desk().fails(2, "b : {x : ^} a.").fails(2, "b : {x : a ^. a.").fails(2, "b : {x : a ^) a.").fails(2, "b : {x : a} ^.");
        desk().fails(2, "b : a = [^type] c.").fails(2, "b : a = [x ^: a] c.").fails(2, "b : a = [^] c.").fails(2, "b : a = [x] ^.");
        desk().fails(2, "b : (^).").fails(2, "b : (a^.").fails(2, "b : (a ^} a.").fails(2, "b : a^).").fails(2, "b : (a ^= a.");
        // an application has a name as its head
        desk().fails(2, "b : type ^a.").fails(2, "b : type ^type.").fails(2, "b : (a) ^a.").fails(2, "b : (t) ^(c).").fails(2, "b : type ^(c).");
        // a product or function is no argument without ( )
        desk().fails(2, "? t c ^[x] c.").fails(2, "? t c ^{x:a} c.").fails(2, "? t ^?.").fails(2, "? c ^: a.").fails(2, "? c ^= c.");
        desk().fails(2, "? ^.").fails(2, "? ^? c.").fails(2, "b : a = c ^= c.").fails(2, "b : a = ^= c.").fails(2, "b : a = ^.");
        desk().fails(2, "b : a -> a ^{x:a} a.").fails(2, "b : a ^[x] a.").fails(2, "b : a. ^. c : a.");
        // the first sentence is read before the second one is looked at
        Desk d = desk().fails(2, "b : a. ^: $");
        Desk.due("constants()", d.constants(), 4);
    }

    private static void textEnds() {
        for (String s : new String[] {"b", "b :", "b : a", "b : a ->", "b : {", "b : {x", "b : {x :", "b : {x : a", "b : {x : a}", "b : (", "b : (a",
                "b : (a)", "b : a =", "b : a = c", "b : a = [", "b : a = [x", "b : a = [x]", "?", "? c", "? t c", "? t c (c)"}) {
            desk().fails(2, s + "^").fails(2, s + "  \n^");
        }
    }

    private static void unknownNames() {
        desk().fails(3, "b : ^b.").fails(3, "b : a -> ^d.").fails(3, "b : ^x -> a.").fails(3, "b : {x : ^x} a.");
        desk().fails(3, "b : {x : a} ^y.").fails(3, "? t c ^x.").fails(3, "? ^A.").fails(3, "b : ({x:a} a) -> ^x.");
        desk().fails(3, "b : (a -> a) -> a = [f] f (t ^x c).").fails(3, "b : a -> a -> a = [x][y] t (t x y) ^z.");
        // a variable ends with its product or function
        desk().fails(3, "? t (t ([x] x) ^x) c.").fails(3, "? t ([x][y] x) (t ([y] y) ^y).").fails(3, "b : {x:a} a = ^x.");
        // a variable hides the constant with its name, and the outer one
        Desk d = desk().reads(2, "q : a -> a -> type. r : {c:a}{x:a}{c:a} q c x.");
        d.prints("{x0:a}{x1:a}{x2:a}q x2 x1", "? r.").prints("{x0:a}{x1:a}q x1 c", "s : {r:a}{x:a} q x c. ? s.");
        d.prints("{x0:a}{x1:a}q x0 x1", "abcdefghijk1 : {abcdefghijk2:a}{abcdefghijk3:a} q abcdefghijk2 abcdefghijk3. ? abcdefghijk1.");
        d.fails(6, "u : {a:a}^a.").fails(6, "u : {a:a}{b:^a} q a b.").reads(1, "u : {a:a} q a a.");
    }

    private static void takenNames() {
        desk().fails(4, "^a : type.").fails(4, "b : a. ^b : a.").fails(4, "^t").fails(4, "^c $").fails(4, "^a = c.");
        Desk d = new Desk().reads(1, "abcdefghijkl : type.").fails(4, "^abcdefghijkl : type.").reads(1, "abcdefghijk : type.");
        // what could not be read tells no constant
        d.fails(3, "b : ^d.").reads(1, "b : type.");
    }

    private static void tooManyConstants() {
        Desk d = new Desk().reads(1, "a : type.");
        for (int i = 1; i < 48; i++) {
            d.reads(1, "c" + i + " : a.");
        }
        d.tells(47, 0, 0, 1, 0, 0, 0);
        d.fails(4, "^c48 : a.").fails(4, "^c48").fails(4, "? c47. ^c48 : a = c1.").fails(4, "^a : a.").reads(1, "? c47.");
        Desk.due("constants()", d.constants(), 48);
        d.fails(1, "^ccccccccccccc : a.").fails(2, "^type : a.");
        Desk.due("clear()", d.clear(), 48);
        d.reads(1, "c48 : type.");
    }

    private static void tooManyOpen() {
        String open40 = Desk.repeat("(", 40);
        String close40 = Desk.repeat(")", 40);
        desk().reads(1, "b : " + open40 + "a" + close40 + ".").fails(5, "d : " + open40 + "^(a" + close40 + ").");
        desk().reads(1, "b : " + open40 + "a" + close40 + " -> (a -> a) -> a.");
        desk().reads(1, "b : " + Desk.repeat("a -> ", 40) + "a.").fails(5, "d : " + Desk.repeat("a -> ", 40) + "a ^-> a.");
        desk().reads(1, "b : " + Desk.repeat("{x:a}", 40) + "a.").fails(5, "d : " + Desk.repeat("{x:a}", 40) + "^{x:a} a.");
        desk().fails(5, "d : " + Desk.repeat("{x:a}", 40) + "a ^-> a.").fails(5, "d : " + Desk.repeat("a -> ", 40) + "^(a).");
        desk().reads(1, "b : " + Desk.repeat("a -> ", 40) + "a = " + Desk.repeat("[x]", 40) + "x.");
        desk().fails(5, "b : a = " + Desk.repeat("[x]", 40) + "^[x] x.").fails(5, "b : a = " + Desk.repeat("[x]", 40) + "t c ^(c).");
        // the { is open in its first part, its variable is not known there
        desk().fails(5, "b : " + Desk.repeat("{x:a}", 39) + "{x:^(a)} a.").reads(1, "b : " + Desk.repeat("{x:a}", 38) + "{x:(a)} a.");
        // what was closed counts no more
        desk().reads(1, "b : a = " + Desk.repeat("t (t c c) (", 39) + "t (c) (c)" + Desk.repeat(")", 39) + ".");
        desk().reads(1, "b : " + Desk.repeat("((a)) -> ", 38) + "a.");
        // of a bad token the least number
        desk().fails(2, "b : " + open40 + "type ^(").fails(2, "b : " + Desk.repeat("{x:a}", 40) + "a ^{x:a} a.");
        desk().fails(3, "b : " + open40 + "^x");
    }

    private static void tooManyNodes() {
        // t and 299 arguments, which only checking refuses
        String arguments = Desk.repeat(" c", 299);
        desk().fails(8, "? t c c ^c" + Desk.repeat(" c", 296) + ".").fails(5, "? t" + arguments + " ^c.");
        desk().fails(5, "? t" + arguments + " (^c).").fails(5, "? t" + arguments + " ^type.").fails(3, "? t" + arguments + " ^x.");
        desk().fails(5, "? t" + Desk.repeat(" c", 298) + " (t ^c).").fails(5, "? t" + arguments + " (^[x] c).");
        desk().fails(5, "? t" + arguments + " (^{x:a} c).").fails(5, "b : t" + arguments + " ^-> a.");
        desk().fails(5, "b : (t" + Desk.repeat(" c", 297) + ") -> a ^-> a.");
        // the two expressions of a sentence are counted one by one
        String family = "p : " + Desk.repeat("a -> ", 37) + "type.";
        String type = "p (t c c)" + Desk.repeat(" (t (t (t c c) c) (t c c))", 32) + Desk.repeat(" (t c c)", 2) + " c c";
        desk().reads(2, family + "e : " + type + ".").tells(4, 0, 0, 300, 0, 0, 3)
                .reads(1, "f : " + type + " = e.").tells(5, 0, 0, 300, 0, 1, 3)
                .fails(5, "g : " + type.substring(0, type.length() - 1) + "(t ^c c).");
    }

    private static void firstMet() {
        // tokens come before checking, the first sentence before the second
        desk().fails(2, "b : c -> type -> ^.").fails(3, "b : c = ^x.").fails(6, "b : ^c. d : $");
        desk().fails(1, "b : a = c^$ x").fails(3, "b : ^x $").fails(4, "^a $");
    }
}
