/** Checking, and the faults 6 to 11, each with its place. */
public final class CheckFaultTest {
    public static void main(String[] args) {
        sound();
        wrongSortOfType();
        wrongSortOfObject();
        wrongSortOfQuestion();
        tooHigh();
        misfitArguments();
        misfitObjects();
        notTheSame();
        tooLarge();
        noPaper();
        leftToRight();
        Desk.end();
    }

    private static Desk desk() {
        return new Desk().reads(6, "a : type. c : a. f : a -> a. t : a -> a -> a. q : a -> type. e : {x:a} q x.");
    }

    private static void sound() {
        Desk d = desk().reads(1, "g : (a -> a) -> a.").reads(1, "r : {x:a} q x -> type.");
        d.reads(1, "k1 : {x:a}{u:q x} r x u.").reads(1, "k2 : r c (e c) = k1 c (e c).");
        d.reads(1, "k3 : {x:a} q x -> q x = [y][u] u.").reads(1, "k4 : ({x:a} q x) -> q (f c) = [h] h (f c).");
        d.reads(1, "k5 : {F:a -> a}{x:a} q (F x) = [F][y] e (F y).").reads(1, "k6 : a = g ([x] g ([y] t x y)).");
        // the variable of a function has the type that was asked for, with what stands there
        d.reads(1, "k7 : {x:a} ({y:a} q (t x y)) -> q (t x (f x)) = [z][h] h (f z).");
        d.reads(1, "k8 : {x:a} (q x -> q (f x)) -> type.");
        // a proved constant is one like the others
        d.reads(1, "k9 : a = k6.").reads(1, "k10 : q (t k9 k6) = e (t k9 k6).").fails(9, "k11 : q k9 = ^e k6.");
        // a name of a variable does not matter
        d.reads(1, "n : ({x:a} q x) -> a.").reads(1, "k11 : a = n ([zz] e zz).");
        d.reads(1, "p : (a -> a -> a) -> type.");
        d.reads(1, "k12 : p ([x][y] t x y) -> p ([y][x] t y x) = [u] u.").fails(9, "k13 : p ([x][y] t x y) -> p ([y][x] t x y) = [u] ^u.");
    }

    private static void wrongSortOfType() {
        desk().fails(6, "b : ^[x] a.").fails(6, "b : a -> ^[x] a.").fails(6, "b : {x:^[y] a} a.").fails(6, "b : (^[x] a) -> a.");
        desk().fails(6, "b : {x:^type} a.").fails(6, "b : ^type -> type.").fails(6, "b : ((^type)) -> a.").fails(6, "b : a -> ^type -> a.");
        desk().fails(6, "b : (a -> ^type) -> a.").fails(6, "b : {x:{y:a}^type} type.").fails(6, "b : (a -> {y:a} ^type) -> a.");
        desk().fails(6, "b : ^c.").fails(6, "b : ^f c.").fails(6, "b : a -> ^c.").fails(6, "b : ^c -> a.").fails(6, "b : {x:a} ^x.");
        desk().fails(6, "b : {x:a}{y:^x} a.").fails(6, "b : {x:a} ((^x)) -> a.").fails(6, "b : {x:a -> a} ^x c.");
        desk().fails(6, "b : {x:a}{y:a} ^y.").fails(6, "b : {x:a}{y:a} ^x -> a.").fails(6, "b : {x:a}{y:a}{z:^y} a.").fails(6, "b : {x:a}{y:a -> a}{z:^y x} a.");
        desk().fails(6, "b : ^type = c.").fails(6, "b : a -> ^type = [x] c.").fails(6, "b : {x:a} q x -> ^type = c.").fails(6, "b : (^[x] a) = c.");
        desk().reads(1, "b : (type).").reads(1, "d : a -> (type).").reads(1, "g : (a) -> (a -> (type)).");
    }

    private static void wrongSortOfObject() {
        desk().fails(6, "b : q ^type.").fails(6, "b : q (^type).").fails(6, "? f ^type.").fails(6, "b : a = ^type.").fails(6, "b : a -> a = [x] ^type.");
        desk().fails(6, "b : q (^{x:a} a).").fails(6, "b : q (^a -> a).").fails(6, "b : q ((^a) -> a).").fails(6, "b : q (((^a -> a) -> a) -> a).");
        desk().fails(6, "? f (^{x:a} c).").fails(6, "b : a = ^{x:a} c.").fails(6, "b : a -> a = [x] ^c -> c.");
        desk().fails(6, "b : q ^a.").fails(6, "b : q (^q c).").fails(6, "? f ^a.").fails(6, "b : a = ^a.").fails(6, "b : a -> a = [x] ^q x.");
        Desk d = desk().reads(1, "g : (a -> a) -> a.");
        d.fails(6, "? g ^type.").fails(6, "? g (^a -> a).").fails(6, "? g ([x] ^type).").fails(6, "? g ([x] ^a).");
        // a family is wrong as an object before it is wrong against a product
        d.fails(6, "? g ^q.").fails(6, "? g (^q c).");
        // a variable with the name of a family is none
        d.reads(1, "b : a -> a = [q] f q.");
    }

    private static void wrongSortOfQuestion() {
        desk().fails(6, "? ^type.").fails(6, "? ^a.").fails(6, "? ^q c.").fails(6, "? ^[x] x.").fails(6, "? ^{x:a} a.").fails(6, "? ^a -> a.");
        desk().fails(6, "? ((^a) -> a).").fails(6, "? (^type).").fails(6, "? (^[x] c).").fails(6, "? ^q type.").reads(1, "? (((c))).");
        Desk.due("a question that can't be is not printed", desk().fails(6, "? ^a.").printed(), 0);
    }

    private static void tooHigh() {
        desk().fails(7, "b : ((^a -> a) -> a) -> a.").fails(7, "b : {x:{y:^{z:a} a} a} a.").fails(7, "b : (a -> (^a -> a) -> a) -> a.");
        desk().fails(7, "b : a -> ((^a -> a) -> a) -> a.").fails(7, "b : {x:({y:(((^a) -> a))} a)} type.").fails(7, "b : ((^a -> a) -> a) -> type.");
        // before it is checked, but behind what stands before it
        desk().fails(7, "b : ((^c -> type) -> a) -> a.").fails(7, "b : ((^type -> [x] x) -> a) -> a.").fails(6, "b : (^c -> (a -> a) -> a) -> a.");
        desk().reads(1, "b : (a -> a) -> (a -> a -> a) -> ({x:a} q x) -> a.").reads(1, "d : (a -> a) -> type.");
        desk().fails(6, "b : (a -> a) -> a -> ^c.").fails(7, "b : {x:a} {y:q x} ({z:^q x -> a} q x) -> a.");
        desk().fails(7, "b : ((^a -> a) -> a) -> a = c.");
    }

    private static void misfitArguments() {
        desk().fails(8, "? c ^c.").fails(8, "? f c ^c.").fails(8, "? f c (^f c).").fails(8, "? t c c ((^[x] c)) c.").fails(8, "b : a ^c.");
        desk().fails(8, "b : q c ^c.").fails(8, "? f (c ^c).").fails(8, "b : a -> a = [x] x ^c.").fails(8, "b : (a -> a) -> a = [h] h c ^c.");
        // there is nothing to check such an argument against
        desk().fails(8, "? c ^type.").fails(8, "? c ^a.").fails(8, "b : a (^a -> a).");
        // too few
        desk().fails(8, "b : ^q.").fails(8, "b : {x:a} ^q.").fails(8, "b : ^q -> a.").fails(8, "b : q ^f.").fails(8, "b : q (^t c).");
        desk().fails(8, "? f ^f.").fails(8, "? f (^t c).").fails(8, "b : a = ^f.").fails(8, "b : a -> a = [x] ^t x.").fails(8, "b : q c = ^e.");
        Desk d = desk().reads(1, "r : {x:a} q x -> type.").fails(8, "b : ^r.").fails(8, "b : ^r c.").fails(8, "b : r c (e c) ^c.");
        d.reads(1, "rr : {x:a}{u:q x} r x u.").prints("{x0:q c}r c x0", "? rr c.");
    }

    private static void misfitObjects() {
        Desk d = desk().reads(1, "g : (a -> a) -> a.");
        d.fails(8, "? f (^[x] x).").fails(8, "? g ([x] ^[y] x).").fails(8, "b : a = ^[x] x.").fails(8, "b : a -> a = [x] ^[y] y.");
        d.fails(8, "? g ^c.").fails(8, "? g ^f.").fails(8, "? g (^f c).").fails(8, "b : a -> a = ^f.").fails(8, "b : a -> a -> a = [x] ^t x.");
        // before the arguments, which are wrong too
        d.fails(8, "? g (^f type).").fails(8, "b : a -> a = ^t a a a.").fails(8, "b : (a -> a) -> a -> a = [h] ^h.");
        d.reads(1, "b : (a -> a) -> a -> a = [h][x] h x.").reads(1, "d : a = g ([x] f x).");
    }

    private static void notTheSame() {
        desk().fails(9, "b : q c = ^e (f c).").fails(9, "b : {x:a} q x = [x] ^e c.").fails(9, "b : {x:a}{y:a} q x = [x][y] ^e y.");
        desk().fails(9, "b : q c -> a = [u] ^u.").fails(9, "? f (^e c).").fails(9, "? e (^e c).").fails(9, "b : q (^e c).");
        desk().fails(9, "b : {x:a} q x -> q (f x) = [x][u] ^u.").fails(9, "b : ({x:a} q (f x)) -> q c = [h] ^h c.");
        Desk d = desk().reads(2, "a2 : type. c2 : a2.").fails(9, "? f ^c2.").fails(9, "b : a2 = ^c.");
        d.reads(1, "g : (a -> a) -> a.").fails(9, "? g ([x] ^c2).").fails(9, "b : q (g ([x] x)) = ^e (g ([x] c)).");
        d.reads(1, "b : q (g ([x] x)) = e (g ([y] y)).").fails(9, "d : q (g ([x] f x)) = ^e (g ([x] x)).");
        // nothing is said of functions that do nothing: they are not the same
        d.reads(1, "h : {F:a -> a} q (g ([x] F (F x))).").reads(1, "k : q (g ([x] x)) = h ([x] x).").fails(9, "k2 : q (g ([x] f x)) = ^h ([x] f x).");
        d.reads(1, "k2 : q (g ([x] f (f x))) = h ([x] f x).");
    }

    private static void tooLarge() {
        Desk d = desk().reads(1, "b : {F:a -> a} q (F (F (F (F (F (F (F (F c)))))))).");
        d.fails(10, "? b (^[x] t x x).").prints("q c", "? b ([x] x).");
        d.fails(10, "k : q c -> q c = [u] b ((^[x] t x x)).").prints("q (f (f (f (f (f (f (f (f c))))))))", "? b ([x] f x).");
        // p and 255 nodes stand before the second argument's, so 44 of these are not too many
        Desk n = desk().reads(2, "p : a -> a -> type. b : {F:a -> a}{x:a} p (F (F (F (F (F (F (F c))))))) x.");
        n.reads(1, "? b ([x] t x x) (" + object(44) + ").").fails(10, "? b ([x] t x x) (^" + object(45) + ").");
        n.fails(10, "? b ([x] t x x) ((^f (" + object(44) + "))).").reads(1, "? b ([x] t x x) (" + object(43) + ").");
        // the argument is checked first
        n.fails(9, "? b ([x] t x x) (t (^e c) (" + object(43) + ")).");
        // what does not come to stand in the result has no nodes, however large it would be
        String nest = Desk.repeat("F c (", 36) + "c" + Desk.repeat(")", 36);
        Desk l = desk().reads(2, "b : {F:a -> a -> a} q (F (" + nest + ") c). d : {F:a -> a -> a} q (" + nest + ").");
        l.prints("q (t c c)", "? b ([x][y] t y y).").prints("q (t (t c c) (t c c))", "? b ([x][y] t x x).").prints("q c", "? d ([x][y] y).");
        l.fails(10, "? d (^[x][y] t y y).");
        // in a family's kind, too
        Desk k = desk().reads(1, "s : {F:a -> a} q (F (F (F (F (F (F (F (F (F c))))))))) -> type.");
        k.fails(10, "b : s (^[x] t x x) c.").fails(10, "b : a -> s (^[x] t x x).").fails(8, "b : ^s ([x] x).");
    }

    /** An object of so many nodes. */
    private static String object(int nodes) {
        String s = nodes % 2 == 0 ? "f c" : "c";
        for (int i = 0; i < (nodes - 1) / 2; i++) {
            s = i % 2 == 0 ? "t c (" + s + ")" : "t (" + s + ") c";
        }
        return s;
    }

    private static void noPaper() {
        Desk d = new Desk().reads(2, "abcdefghijkl : type. b : abcdefghijkl.");
        for (int i = 0; i < 315; i += 45) {
            d.reads(45, Desk.repeat("?b.", 45));
        }
        Desk.due("printed()", d.printed(), 4095);
        d.fails(11, " ^? b.").fails(11, "^? b.");
        Desk.due("printed()", d.printed(), 4095);
        Desk.due("paper(4088)", d.paper(4088), 0x000a6c6b6a696867L);
        d.reads(1, "z : type.").fails(11, "y : z. ^? y. x : z.");
        Desk.due("constants()", d.constants(), 4);
        d.fails(6, "? ^z.");
        Desk.due("wipe()", d.wipe(), 4095);
        d.prints("abcdefghijkl", "? b.");
        // to the last byte
        Desk f = new Desk().reads(2, "abcdefg : type. b : abcdefg.");
        for (int i = 0; i < 512; i += 64) {
            f.reads(64, Desk.repeat("?b.", 64));
        }
        Desk.due("printed()", f.printed(), 4096);
        Desk.due("paper(4088)", f.paper(4088), 0x0a67666564636261L);
        f.fails(11, "^? b.");
        Desk.due("wipe()", f.wipe(), 4096);
    }

    private static void leftToRight() {
        desk().fails(6, "b : ^c -> type -> a.").fails(9, "b : q (^e c) -> c.").fails(8, "b : a ^c -> c.").fails(6, "b : q ^type c.");
        desk().fails(8, "? t (c ^c) type.").fails(6, "? t ^type (c c).").fails(6, "b : ^c = type.").fails(8, "? t c (^t c) c c.");
        desk().fails(6, "b : {x:a} q x = [x] e ^a.").fails(9, "b : {x:a} q x = [x] ^e c. d : c.");
    }
}
