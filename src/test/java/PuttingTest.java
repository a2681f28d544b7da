/** Arguments in the places of variables, and what is printed. */
public final class PuttingTest {
    public static void main(String[] args) {
        printing();
        levels();
        places();
        functions();
        captures();
        deep();
        wide();
        natural();
        Desk.end();
    }

    private static Desk desk() {
        return new Desk().reads(8, "a : type. c : a. f : a -> a. t : a -> a -> a. all : (a -> a) -> a."
                + "al2 : (a -> a -> a) -> a -> a. q : a -> type. e : {x:a} q x.");
    }

    private static void printing() {
        Desk d = desk().prints("a", "? c.").prints("{x0:a}a", "? f.").prints("{x0:a}{x1:a}a", "? t.").prints("{x0:{x0:a}a}a", "? all.");
        d.prints("{x0:{x0:a}{x1:a}a}{x1:a}a", "? al2.").prints("{x0:a}q x0", "? e.").prints("q c", "? e c.").prints("q (f c)", "? e (f c).");
        d.prints("q (t (f c) c)", "? e (t (f (c)) (c)).").prints("a", "? (((t c c))).");
        d.prints("q (all ([x0]x0))", "? e (all ([any]any)).").prints("q (al2 ([x0][x1]t x1 x0) c)", "? e (al2 ([p][q] t q p) c).");
        d.prints("{x0:a}{x1:q x0}q (t x0 x0)", "b : {A:a} q A -> q (t A A). ? b.").prints("a\nq c", "? c. ? e c.");
        d.prints("abcdefghijkl", "abcdefghijkl : type. d : abcdefghijkl. ? d.").prints("A_'9", "A_'9 : type. g : A_'9. ? g.");
        d.prints("{x0:a}a", "h : {x0:a} a = [x0] t x0 x0. ? h.");
    }

    private static void levels() {
        // a product in a first part stands in no more products than its own
        Desk d = desk().prints("{x0:{x0:a}a}{x1:{x1:a}{x2:a}a}{x2:{x2:a}q (x0 x2)}q (x1 c (x0 c))",
                "b : {F:a -> a}{G:a -> a -> a}({y:a} q (F y)) -> q (G c (F c)). ? b.");
        d.prints("{x0:{x0:a}{x1:a}a}{x1:{x1:a}q (f x1)}q (x0 c (f c))", "? b ([x] f x).");
        d.prints("{x0:{x0:a}q (f x0)}q (t (f c) (f c))", "? b ([x] f x) ([x][y] t y (f x)).");
        d.prints("q (t (f c) (f c))", "? b ([x] f x) ([x][y] t y (f x)) ([y] e (f y)).");
        StringBuilder type = new StringBuilder();
        for (int i = 0; i < 40; i++) {
            type.append("{x").append(i).append(":a}");
        }
        d.prints(type + "q x39", "w : " + Desk.repeat("{x:a}", 40) + "q x. ? w.");
        d.prints(type.substring(0, type.length() - 7) + "q c", "v : " + Desk.repeat("{x:a}", 39) + "q c. ? v.");
    }

    private static void places() {
        Desk d = desk().prints("q (t c c)", "b : {x:a} q (t x x). ? b c.").prints("q (t (f c) (f c))", "? b (f c).");
        d.prints("{x0:q (f c)}q (t (f c) c)", "d : {x:a}{y:a} q x -> q (t x y). ? d (f c) c.");
        d.prints("{x0:a}{x1:q (f c)}q (t (f c) x0)", "? d (f c).").prints("q (t (f c) c)", "? d (f c) c (e (f c)).");
        // an argument in an argument, and one that stands nowhere
        d.prints("q c", "g : {x:a} q x -> q x = [x][u] u. ? g c (g c (e c)).").prints("q c", "h : {x:a} q c. ? h (f (f c)).");
        // in the first parts, too
        d.prints("{x0:{x0:a}q (t (f c) x0)}q (f c)", "i : {x:a} ({y:a} q (t x y)) -> q x. ? i (f c).");
        // variables that are known in an argument stay what they are
        d.reads(1, "j : {x:a} q (t x x) = [z] e (t z z).").reads(1, "k : {y:a}{x:a} q (t (f y) x) = [y][x] d (f y) x (e (f y)).");
        d.reads(1, "l : {y:a} ({z:a} q (t (f y) z)) -> q (f y) = [y][h] i (f y) ([z] h z).");
    }

    private static void functions() {
        Desk d = desk().prints("q (f (f c))", "b : {F:a -> a} q (F (F c)). ? b ([x] f x).");
        d.prints("q c", "? b ([x] x).").prints("q c", "? b ([x] c).").prints("q (t (t c c) (t c c))", "? b ([x] t x x).");
        d.prints("q (t c (t c c))", "g : {F:a -> a -> a} q (F c (F c c)). ? g ([x][y] t x y).").prints("q (t (t c c) c)", "? g ([x][y] t y x).");
        d.prints("q (f c)", "? g ([x][y] f x).").prints("q (f (f c))", "? g ([x][y] f y).");
        d.prints("{x0:{x0:a}a}q (all ([x1]x0 x1))", "h : {F:a -> a} q (all ([x] F x)). ? h.").prints("q (all ([x0]t x0 c))", "? h ([z] t z c).");
        d.prints("q (all ([x0]all ([x1]t x0 x1)))", "? h ([z] all ([w] t z w)).").prints("q (all ([x0]c))", "? h ([z] c).");
        // what an argument stands for may be the variable of a function around it
        d.prints("q (all ([x0]t (f x0) (f (f x0))))", "i : {F:a -> a} q (all ([x] t (F x) (F (F x)))). ? i ([x] f x).");
        d.prints("q (al2 ([x0][x1]t x1 x0) (al2 ([x0][x1]t x0 x1) c))",
                "j : {F:a -> a -> a} q (al2 ([x][y] F y x) (al2 ([x][y] F x y) c)). ? j ([x][y] t x y).");
    }

    private static void captures() {
        // F's argument comes to stand in a function of what is put there
        Desk d = desk().prints("q (all ([x0]all ([x1]t x0 x1)))", "b : {F:a -> a} q (all ([y] F y)). ? b ([x] all ([y] t x y)).");
        d.prints("q (all ([x0]all ([x1]t (all ([x2]t x0 x2)) x1)))", "g : {F:a -> a} q (all ([y] F (F y))). ? g ([x] all ([y] t x y)).");
        // what is put behind that is again on its own level
        d.prints("q (all ([x0]t (all ([x1]t (all ([x2]t x0 x2)) x1)) (all ([x1]t x0 x1))))",
                "h : {F:a -> a} q (all ([y] t (F (F y)) (F y))). ? h ([x] all ([y] t x y)).");
        // an argument with a function of its own
        d.prints("q (all ([x0]t (all ([x1]t x1 x0)) x0))", "i : {F:a -> a -> a} q (all ([y] F (all ([z] F z y)) y)). ? i ([u][v] t u v).");
        d.prints("q (all ([x0]t (all ([x1]all ([x2]t x1 x2))) x0))",
                "j : {F:a -> a} q (F (all ([y] F y))). ? j ([x] all ([y] t x y)).");
        // an argument whose own functions come to stand in others
        d.prints("q (all ([x0]t x0 (all ([x1]t x1 x1))))", "m : {x:a} q (all ([z] t z x)). ? m (all ([y] t y y)).");
        d.prints("q (all ([x0]t x0 (all ([x1]all ([x2]t x1 x2)))))", "? m (all ([y] all ([z] t y z))).");
        d.reads(1, "n : {z:a} q (all ([y] t y (all ([w] t w z)))) = [x] m (all ([w] t w x)).");
        // a variable of the sentence in what is put there
        d.reads(1, "k : {z:a} q (all ([y] all ([w] t (t y z) w))) = [x] b ([y] all ([z] t (t y x) z)).");
        d.fails(9, "l : {z:a} q (all ([y] all ([w] t (t y w) z))) = [x] ^b ([y] all ([z] t (t y x) z)).");
    }

    private static void deep() {
        // an object that is nested deeper than any text can be
        String inner = Desk.repeat("F (", 30) + "c" + Desk.repeat(")", 30);
        Desk d = desk().reads(1, "b : {F:a -> a} q (" + inner + ").");
        String nest = Desk.repeat("f (", 8) + "x" + Desk.repeat(")", 8);
        d.prints("q (" + Desk.repeat("f (", 239) + "f c" + Desk.repeat(")", 239) + ")", "? b ([x] " + nest + ").");
        // functions nested that deep: their variables have three figures
        StringBuilder body = new StringBuilder("c");
        for (int i = 119; i >= 0; i--) {
            body.insert(0, "all ([x" + i + "]").append(")");
        }
        String alls = Desk.repeat("all ([y] ", 4) + "x" + Desk.repeat(")", 4);
        d.prints("q (" + body + ")", "? b ([x] " + alls + ").");
        d.reads(1, "g : {F:a -> a} ({y:a} q (F y)) -> q (" + inner + ") -> a.").reads(1, "h : ({y:a} q (" + nest.replace('x', 'y') + ")) -> a = [u] g ([x] "
                + nest + ") ([y] u y) (b ([x] " + nest + ")).");
    }

    /** As many types as can be, of as many nodes as they can have, are worked on at once. */
    private static void wide() {
        Desk d = desk().reads(1, "p : " + Desk.repeat("a -> ", 29) + "type.");
        String type = "p" + Desk.repeat(" (t c (t c c))", 29);
        d.reads(2, "u : " + type + ". k : " + type + " -> " + type + ".").tells(10, 0, 1, 293, 1, 0, 8);
        d.prints(type, "? k (" + Desk.repeat("k (", 39) + "k u" + Desk.repeat(")", 40) + ".");
        d.reads(1, "w : " + type + " = k (" + Desk.repeat("k (", 39) + "k u" + Desk.repeat(")", 40) + ".");
        d.fails(9, "v : " + type + " = k (" + Desk.repeat("k (", 39) + "k ^c" + Desk.repeat(")", 40) + ".");
    }

    private static void natural() {
        Desk d = new Desk().reads(12, "o : type. imp : o -> o -> o. and : o -> o -> o. nd : o -> type."
                + "impI : {A:o}{B:o}(nd A -> nd B) -> nd (imp A B)."
                + "impE : {A:o}{B:o} nd (imp A B) -> nd A -> nd B."
                + "andI : {A:o}{B:o} nd A -> nd B -> nd (and A B)."
                + "andL : {A:o}{B:o} nd (and A B) -> nd A. andR : {A:o}{B:o} nd (and A B) -> nd B."
                + "i : type. all : (i -> o) -> o. allE : {P:i -> o}{T:i} nd (all ([x] P x)) -> nd (P T).");
        d.reads(1, "k : {A:o}{B:o} nd (imp A (imp B A)) = [A][B] impI A (imp B A) ([u] impI B A ([v] u)).");
        d.reads(1, "s : {A:o}{B:o}{C:o} nd (imp (imp A (imp B C)) (imp (imp A B) (imp A C))) = [A][B][C]"
                + "impI (imp A (imp B C)) (imp (imp A B) (imp A C)) ([u] impI (imp A B) (imp A C) ([v] impI A C ([w]"
                + "impE B C (impE A (imp B C) u w) (impE A B v w)))).");
        d.reads(1, "swap : {A:o}{B:o} nd (imp (and A B) (and B A)) = [A][B] impI (and A B) (and B A) ([u] andI B A (andR A B u) (andL A B u)).");
        d.fails(9, "bad : {A:o}{B:o} nd (imp (and A B) (and B A)) = [A][B] impI (and A B) (and B A) ([u] andI B A (^andL A B u) (andR A B u)).");
        d.prints("{x0:o}{x1:o}nd (imp (and x0 x1) (and x1 x0))", "? swap.");
        d.prints("{x0:i}{x1:nd (all ([x1]imp (all ([x2]all ([x3]all ([x4]imp p p)))) p))}nd (imp (all ([x2]all ([x3]all ([x4]imp p p)))) p)",
                "p : o. ? allE ([x] imp (all ([y] all ([z] all ([w] imp p p)))) p).");
        d.reads(1, "inst : {P:i -> o}{T:i} nd (all ([x] imp (P x) (P T))) -> nd (imp (P T) (P T)) = [P][T][u] allE ([x] imp (P x) (P T)) T u.");
    }
}
