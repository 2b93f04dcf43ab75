/** Promises 1 to 9 and the terms of things, arrows and tables at their edges. */
public final class EdgeWebTest {
    private static final Edges E = new Edges();
    private static final String PAIR = Edges.PAIR;

    public static void main(String[] args) {
        newObject();
        thingNumbers(); thingMany(); thingAtFirst(); thingAndActs();
        arrowBad(); arrowRing(); arrowMany(); arrowTables();
        cut();
        weight(); neighbours(); told(); rows();
        about(); parent(); sound();
        E.end(1, 9);
    }

    private static void newObject() {
        E.edge(1, "No things, no options.", "what is counted", """
            count({0 1 2 3}) ! 0
            """);
        E.edge(1, "No things, no options.", "calls on the web", """
            arrow(0, 0) ! -1
            arrow(0, 1) ! -1
            cut(0, 1) ! -1
            weight(0, 0, 0, 0) ! -1
            told(0, 0, 0) ! -1
            about(0, {0 1 2 3 4 5 6}) ! -1
            parent(0, 0) ! -2
            sound() ! 0
            see(0, {-1 0}) ! -1
            act(0, {-1 0}) ! -1
            force(0, 0, 1) ! -1
            """);
        E.edge(1, "No things, no options.", "questions", """
            up() ! 0
            down() ! 0
            chance() ! -4
            ask(0, 0) ! -1
            both(0, 0, 0, 0) ! -1
            most(0) ! -1
            likeliest({0 9}) ! -4
            at(0) ! -2
            wholes() ! -4
            apart(0, 0) ! -1
            apart(0, 1) ! -1
            """);
        E.edge(1, "No things, no options.", "options and back", """
            worth(0, 0, 0, 0) ! 10000
            expected(0) ! -1
            best() ! -1
            gain(0) ! -1
            next() ! -1
            undo() ! -1
            """);
        E.edge(1, "ROUGH (-4): the web is not SOUND, or has no things", "options without things", """
            options(6) = 0
            worth(5, 0, 0, 0) ! 10000
            expected(5) ! -4
            expected(6) ! -1
            best() ! -4
            gain(0) ! -1
            next() ! -4
            count(3) = 1
            """);
    }

    private static void thingNumbers() {
        E.edge(2, "each with n VALUES 0 .. n - 1 (n 2 .. 4)", "too few and too many values", """
            thing({LOW -4 -1 0 1 5 6 65538 HIGH}, 1) ! -1
            count(0) = 0
            """);
        E.edge(2, "each with n VALUES 0 .. n - 1 (n 2 .. 4)", "the least and the most", """
            thing(2, 1) = 0
            thing(3, 1) = 1
            thing(4, 1) = 2
            about(0, 0) = 2
            about(1, 0) = 3
            about(2, 0) = 4
            """);
        E.edge(2, "each with n VALUES 0 .. n - 1 (n 2 .. 4)", "the last value, and one behind it", """
            thing(2, 1) = 0
            thing(3, 1) = 1
            thing(4, 1) = 2
            told(0, 0, 1) = 0
            told(0, 0, {-1 2 3}) ! -1
            told(1, 0, 2) = 0
            told(1, 0, {-1 3}) ! -1
            told(2, 0, 3) = 0
            told(2, 0, {-1 4}) ! -1
            """);
        E.edge(2, "a TOTAL (1 .. 100)", "too small and too large", """
            thing(2, {LOW -100 -1 0 101 65537 HIGH}) ! -1
            """);
        E.edge(2, "a TOTAL (1 .. 100)", "the least and the greatest", """
            thing(2, 1) = 0
            thing(2, 100) = 1
            about(0, 1) = 1
            about(1, 1) = 100
            told(0, 0, 0) = 1
            told(1, 0, 0) = 100
            """);
        E.edge(2, "BAD. MANY", "both numbers wrong", """
            thing(1, 0) ! -1
            thing(5, 101) ! -1
            thing(HIGH, LOW) ! -1
            """);
    }

    private static void thingMany() {
        E.edge(2, "MANY (12 things, too)", "the twelfth and the thirteenth", """
            11 x thing(2, 1)
            thing(2, 1) = 11
            thing({2 3 4}, 1) ! -3
            about(11, 0) = 2
            about(12, 0) ! -1
            """);
        E.edge(2, "Answers, of several the one named first", "BAD before MANY", """
            12 x thing(2, 1)
            thing({1 5}, 1) ! -1
            thing(2, {0 101}) ! -1
            """);
        E.edge(2, "The product of the VALUES of all things is at most 20000", "19683, the greatest that can be", """
            8 x thing(3, 1)
            thing(3, 1) = 8
            thing(2, 1) ! -3
            """);
        E.edge(2, "The product of the VALUES of all things is at most 20000", "20736, the least above it", """
            4 x thing(4, 1)
            3 x thing(3, 1)
            thing({3 4}, 1) ! -3
            thing(2, 1) = 7
            thing(2, 1) ! -3
            """);
        E.edge(2, "The product of the VALUES of all things is at most 20000", "16384 with twelve things", """
            2 x thing(4, 1)
            9 x thing(2, 1)
            thing({3 4}, 1) ! -3
            thing(2, 1) = 11
            """);
        E.edge(2, "that of all TOTALS at most 10^9", "just 10^9", """
            4 x thing(2, 100)
            thing(2, {11 12 100}) ! -3
            thing(2, 10) = 4
            thing(2, {2 100}) ! -3
            thing(2, 1) = 5
            """);
        E.edge(2, "that of all TOTALS at most 10^9", "1000000440, the least above it", """
            2 x thing(2, 23)
            thing(2, 59) = 2
            thing(2, 89) = 3
            thing(2, 90) = 4
            thing(2, 4) ! -3
            thing(2, 3) = 5
            """);
        E.edge(2, "that of all TOTALS at most 10^9", "products that wrap round an int to less than 10^9", """
            4 x thing(2, 100)
            thing(2, 10) = 4
            thing(2, {5 9 43}) ! -3
            """);
        E.edge(2, "MANY (-3): a fourth PARENT, or a product greater than it may be", "both products", """
            4 x thing(4, 100)
            thing(4, 10) = 4
            thing(4, 2) ! -3
            thing(4, 1) = 5
            thing(4, 2) ! -3
            thing(4, 1) = 6
            thing(2, 1) ! -3
            """);
    }

    private static void thingAtFirst() {
        E.edge(2, "At first .. all ROWS have the TOTAL at value 0 and 0 at the others", "a new thing", """
            thing(4, 7) = 0
            told(0, 0, 0) = 7
            told(0, 0, {1 2 3}) = 0
            about(0, 2) = 0
            about(0, 3) = 1
            about(0, 4) = 1
            about(0, {5 6}) = -1
            """);
        E.edge(2, "each value of it has a FORCE 0 .. 3 (1 at first)", "a new thing", """
            thing(4, 7) = 0
            force(0, {0 1 2 3}, 0) = 1
            """);
        E.edge(2, "WORTH of an option, for a value of a thing: -500 .. 500, 0 at first", "a thing made behind the options", """
            thing(2, 1) = 0
            options(6) = 0
            worth(5, 0, 1, 500) = 0
            thing(4, 1) = 1
            worth({0 5}, 1, {0 3}, 9) = 0
            worth(5, 0, 1, 0) = 500
            """);
    }

    private static void thingAndActs() {
        E.edge(2, "what was done before it was made can't be undone any more then", "a thing that is made", """
            thing(2, 1) = 0
            see(0, 1) = 1
            options(2) = 0
            thing(2, 1) = 1
            count(3) = 0
            undo() ! -1
            about(0, 5) = 1
            count(2) = 2
            """);
        E.edge(2, "What is answered so changes nothing", "a thing that is refused takes no act away", """
            thing(2, 1) = 0
            see(0, 1) = 1
            thing(5, 1) ! -1
            thing(2, 101) ! -1
            count(3) = 1
            undo() = 0
            about(0, 5) = -1
            """);
        E.edge(2, "What is answered so changes nothing", "so does one thing too many", """
            12 x thing(2, 1)
            see(11, 1) = 1
            thing(2, 1) ! -3
            undo() = 0
            """);
        E.edge(2, "A thing that is made can't be", "undo leaves it", """
            thing(2, 1) = 0
            undo() ! -1
            options(1) = 0
            undo() = 0
            undo() ! -1
            count(0) = 1
            """);
    }

    private static void arrowBad() {
        E.edge(3, "no such thing", "numbers below, behind and far off", PAIR + """
            arrow({LOW -1 2 12 1073741824 HIGH}, 0) ! -1
            arrow(0, {LOW -1 2 12 1073741824 HIGH}) ! -1
            arrow({-1 2}, {-1 2}) ! -1
            """);
        E.edge(3, "no such thing", "behind the last of twelve", """
            12 x thing(2, 1)
            arrow({12 32 -20}, 0) ! -1
            arrow(0, {12 32 -20}) ! -1
            arrow(11, 0) = 1
            """);
        E.edge(3, "BAD (also if it is there, or a is b)", "it is there", """
            5 x thing(2, 1)
            arrow(0, 3) = 1
            arrow(0, 3) ! -1
            arrow(1, 3) = 2
            arrow({0 1}, 3) ! -1
            arrow(2, 3) = 3
            arrow({0 1 2}, 3) ! -1
            """);
        E.edge(3, "BAD (also if it is there, or a is b)", "a is b", """
            5 x thing(2, 1)
            arrow(0, 0) ! -1
            arrow(4, 4) ! -1
            arrow(0, 4) = 1
            arrow(1, 4) = 2
            arrow(2, 4) = 3
            arrow(4, 4) ! -1
            """);
        E.edge(3, "BAD (also if it is there, or a is b)", "it was there, and went", """
            2 x thing(2, 1)
            arrow(0, 1) = 1
            cut(0, 1) = 0
            arrow(0, 1) = 1
            undo() = 2
            arrow(0, 1) = 1
            arrow(0, 1) ! -1
            """);
    }

    private static void arrowRing() {
        E.edge(3, "RING (-2): ARROWS would lead round", "two and three things", """
            3 x thing(2, 1)
            arrow(0, 1) = 1
            arrow(1, 0) ! -2
            arrow(1, 2) = 1
            arrow(2, 0) ! -2
            arrow(2, 1) ! -2
            arrow(0, 2) = 2
            """);
        E.edge(3, "RING (-2): ARROWS would lead round", "twelve things, upwards", """
            12 x thing(2, 1)
            arrow(0, 1) = 1
            arrow(1, 2) = 1
            arrow(2, 3) = 1
            arrow(3, 4) = 1
            arrow(4, 5) = 1
            arrow(5, 6) = 1
            arrow(6, 7) = 1
            arrow(7, 8) = 1
            arrow(8, 9) = 1
            arrow(9, 10) = 1
            arrow(10, 11) = 1
            arrow(11, {0 1 5 10}) ! -2
            arrow(0, 11) = 2
            """);
        E.edge(3, "RING (-2): ARROWS would lead round", "twelve things, downwards", """
            12 x thing(2, 1)
            arrow(11, 10) = 1
            arrow(10, 9) = 1
            arrow(9, 8) = 1
            arrow(8, 7) = 1
            arrow(7, 6) = 1
            arrow(6, 5) = 1
            arrow(5, 4) = 1
            arrow(4, 3) = 1
            arrow(3, 2) = 1
            arrow(2, 1) = 1
            arrow(1, 0) = 1
            arrow(0, {11 10 6 1}) ! -2
            arrow(11, 0) = 2
            """);
        E.edge(3, "RING (-2): ARROWS would lead round", "by way of a third PARENT", """
            6 x thing(2, 1)
            arrow(1, 4) = 1
            arrow(2, 4) = 2
            arrow(3, 4) = 3
            arrow(0, 3) = 1
            arrow(4, 5) = 1
            arrow(5, 0) ! -2
            arrow(5, 3) ! -2
            """);
        E.edge(3, "No row of ARROWS leads round", "by way of things that are SEEN or DONE", """
            3 x thing(2, 1)
            arrow(0, 1) = 1
            arrow(1, 2) = 1
            act(1, 0) = 1
            arrow(2, 0) ! -2
            act(0, 0) = 1
            arrow(2, 0) ! -2
            see(1, 0) = 1
            arrow(2, 0) ! -2
            """);
        E.edge(3, "No row of ARROWS leads round", "no ring any more once an ARROW went", """
            3 x thing(2, 1)
            arrow(0, 1) = 1
            arrow(1, 2) = 1
            arrow(2, 0) ! -2
            cut(0, 1) = 0
            arrow(2, 0) = 1
            arrow(0, 1) ! -2
            undo() = 3
            undo() = 2
            arrow(2, 0) ! -2
            """);
        E.edge(3, "Answers, of several the one named first", "RING before MANY", """
            5 x thing(2, 1)
            arrow(0, 3) = 1
            arrow(1, 3) = 2
            arrow(2, 3) = 3
            arrow(3, 4) = 1
            arrow(4, 3) ! -2
            """);
        E.edge(3, "Answers, of several the one named first", "BAD before RING: a thing that is none", """
            2 x thing(2, 1)
            arrow(0, 1) = 1
            arrow(1, 2) ! -1
            arrow(2, 0) ! -1
            """);
    }

    private static void arrowMany() {
        E.edge(3, "MANY (-3): a fourth PARENT", "the third and the fourth", """
            6 x thing(2, 1)
            arrow(4, 5) = 1
            arrow(0, 5) = 2
            arrow(3, 5) = 3
            arrow({1 2}, 5) ! -3
            about(5, 2) = 3
            """);
        E.edge(3, "MANY (-3): a fourth PARENT", "a new third once one went", """
            5 x thing(2, 1)
            arrow(0, 4) = 1
            arrow(1, 4) = 2
            arrow(2, 4) = 3
            arrow(3, 4) ! -3
            cut(0, 4) = 2
            arrow(3, 4) = 3
            parent(4, 0) = 1
            parent(4, 1) = 2
            parent(4, 2) = 3
            arrow(0, 4) ! -3
            """);
        E.edge(3, "a thing has at most 3 PARENTS", "CHILDREN without a bound of their own", """
            12 x thing(2, 1)
            arrow(0, {1 2 3 4 5 6 7 8 9 10 11}) = 1
            count(1) = 11
            """);
        E.edge(3, "a thing has at most 3 PARENTS", "thirty ARROWS, the most that twelve things can have", """
            12 x thing(2, 1)
            arrow(0, 1) = 1
            arrow(0, 2) = 1
            arrow(1, 2) = 2
            arrow(0, {3 4 5 6 7 8 9 10 11}) = 1
            arrow(1, {3 4 5 6 7 8 9 10 11}) = 2
            arrow(2, {3 4 5 6 7 8 9 10 11}) = 3
            count(1) = 30
            arrow(10, 11) ! -3
            arrow(11, 10) ! -3
            arrow(11, {0 1 2}) ! -2
            """);
    }

    private static void arrowTables() {
        E.edge(3, "whenever a PARENT comes or goes, all ROWS have the TOTAL at value 0", "a PARENT comes", PAIR + """
            thing(2, 1) = 2
            arrow(2, 1) = 2
            about(1, 3) = 4
            told(1, {0 1 2 3}, 0) = 6
            told(1, {0 1 2 3}, {1 2}) = 0
            told(1, 4, 0) ! -1
            told(0, 0, 0) = 1
            told(0, 0, 1) = 3
            """);
        E.edge(3, "whenever a PARENT comes or goes, all ROWS have the TOTAL at value 0", "64 ROWS", """
            4 x thing(4, 5)
            row 3 0 : 1 1 1 2
            arrow(2, 3) = 1
            row 3 3 : 1 1 1 2
            arrow(1, 3) = 2
            row 3 15 : 1 1 1 2
            arrow(0, 3) = 3
            about(3, 3) = 64
            about(3, 4) = 1
            told(3, {0 3 15 63}, 0) = 5
            told(3, {0 3 15 63}, {1 2 3}) = 0
            """);
        E.edge(3, "An ARROW from a to b", "the PARENT's own table stays", """
            2 x thing(2, 3)
            row 0 0 : 1 2
            row 1 0 : 2 1
            arrow(0, 1) = 1
            told(0, 0, 0) = 1
            told(0, 0, 1) = 2
            told(1, {0 1}, 0) = 3
            told(1, {0 1}, 1) = 0
            """);
    }

    private static void cut() {
        E.edge(4, "no such thing", "numbers below, behind and far off", PAIR + """
            cut({LOW -1 2 12 1073741824 HIGH}, 1) ! -1
            cut(0, {LOW -1 2 12 1073741824 HIGH}) ! -1
            """);
        E.edge(4, "BAD: there is none", "none at all, the other way round, to itself", PAIR + """
            thing(2, 1) = 2
            cut(0, 2) ! -1
            cut(2, 1) ! -1
            cut(1, 0) ! -1
            cut({0 1 2}, 0) ! -1
            cut(1, 1) ! -1
            """);
        E.edge(4, "BAD: there is none", "a row of two ARROWS is no ARROW", """
            3 x thing(2, 1)
            arrow(0, 1) = 1
            arrow(1, 2) = 1
            cut(0, 2) ! -1
            """);
        E.edge(4, "BAD: there is none", "it has gone already", PAIR + """
            cut(0, 1) = 0
            cut(0, 1) ! -1
            undo() = 9
            cut(0, 1) = 0
            """);
        E.edge(4, "how many PARENTS b has", "the first, the middle and the last of three", """
            4 x thing(2, 1)
            arrow(2, 3) = 1
            arrow(0, 3) = 2
            arrow(1, 3) = 3
            cut(2, 3) = 2
            parent(3, 0) = 0
            parent(3, 1) = 1
            parent(3, 2) ! -2
            undo() = 3
            cut(0, 3) = 2
            parent(3, 0) = 2
            parent(3, 1) = 1
            undo() = 3
            cut(1, 3) = 2
            parent(3, 0) = 2
            parent(3, 1) = 0
            cut(2, 3) = 1
            cut(0, 3) = 0
            parent(3, 0) ! -2
            count(1) = 0
            """);
        E.edge(4, "how many PARENTS b has", "the last thing's three PARENTS", """
            12 x thing(2, 1)
            arrow(8, 11) = 1
            arrow(9, 11) = 2
            arrow(10, 11) = 3
            cut(8, 11) = 2
            parent(11, 0) = 9
            parent(11, 1) = 10
            cut(10, 11) = 1
            cut(9, 11) = 0
            """);
        E.edge(4, "The ARROW from a to b goes", "the tables of a and of others stay", """
            4 x thing(2, 3)
            arrow(0, 2) = 1
            arrow(3, 2) = 2
            row 2 1 : 2 1
            arrow(2, 1) = 1
            cut(2, 1) = 0
            told(2, 1, 0) = 2
            told(2, 1, 1) = 1
            told(2, {0 2 3}, 0) = 3
            """);
        E.edge(4, "in the order in which the ARROWS came", "one that goes and comes again is the last", """
            4 x thing(2, 1)
            arrow(0, 3) = 1
            arrow(1, 3) = 2
            arrow(2, 3) = 3
            cut(0, 3) = 2
            arrow(0, 3) = 3
            parent(3, 0) = 1
            parent(3, 1) = 2
            parent(3, 2) = 0
            """);
        E.edge(4, "whenever a PARENT comes or goes, all ROWS have the TOTAL at value 0", "the last PARENT goes", PAIR + """
            cut(0, 1) = 0
            about(1, 3) = 1
            told(1, 0, 0) = 6
            told(1, 0, {1 2}) = 0
            told(1, 1, 0) ! -1
            told(0, 0, 1) = 3
            """);
        E.edge(4, "whenever a PARENT comes or goes, all ROWS have the TOTAL at value 0", "one of three goes", """
            4 x thing(2, 3)
            arrow(0, 3) = 1
            arrow(1, 3) = 2
            arrow(2, 3) = 3
            row 3 0 : 1 2
            row 3 3 : 0 3
            row 3 7 : 1 1
            cut(1, 3) = 2
            told(3, {0 1 2 3}, 0) = 3
            told(3, {0 1 2 3}, 1) = 0
            about(3, 4) = 1
            arrow(1, 3) = 3
            told(3, {0 1 2 3 4 5 6 7}, 0) = 3
            told(3, {0 1 2 3 4 5 6 7}, 1) = 0
            """);
    }

    private static void weight() {
        E.edge(5, "no such thing", "numbers below, behind and far off", PAIR + """
            weight({LOW -1 2 11 12 16777216 HIGH}, 0, 0, 0) ! -1
            """);
        E.edge(5, "no such .. row", "below, behind, and those that wrap round", PAIR + """
            weight(0, {LOW -1 1 64 1073741824 HIGH}, 0, 0) ! -1
            weight(1, {LOW -1 2 64 1073741824 HIGH}, 0, 0) ! -1
            """);
        E.edge(5, "no such .. value", "below, behind, and those of the rows beside it", PAIR + """
            weight(0, 0, {LOW -1 2 3 4 HIGH}, 0) ! -1
            weight(1, 1, {LOW -4 -1 3 4 HIGH}, 0) ! -1
            """);
        E.edge(5, "WEIGHTS of its values, whole numbers 0 .. TOTAL", "too small and too large", PAIR + """
            weight(0, 0, 0, {LOW -1 5 6 HIGH}) ! -1
            weight(1, 1, 2, {LOW -1 7 100 HIGH}) ! -1
            """);
        E.edge(5, "WEIGHTS of its values, whole numbers 0 .. TOTAL", "the least and the greatest", PAIR + """
            weight(1, 1, 2, 6) = 3
            weight(1, 1, 2, 0) = 6
            weight(1, 1, 2, 6) = 0
            weight(0, 0, 0, 4) = 1
            weight(0, 0, 0, 0) = 4
            """);
        E.edge(5, "WEIGHTS of its values, whole numbers 0 .. TOTAL", "TOTALS 1 and 100", """
            thing(2, 1) = 0
            thing(2, 100) = 1
            weight(0, 0, 1, 1) = 0
            weight(0, 0, 1, 2) ! -1
            weight(1, 0, 1, 100) = 0
            weight(1, 0, 1, 101) ! -1
            """);
        E.edge(5, "A WEIGHT of thing x becomes w: what it was", "the same again", PAIR + """
            weight(1, 0, 1, 4) = 4
            weight(1, 0, 1, 4) = 4
            count(3) = 11
            undo() = 10
            told(1, 0, 1) = 4
            """);
        E.edge(5, "A WEIGHT of thing x becomes w", "no other one does", PAIR + """
            weight(1, 1, 0, 5) = 1
            told(1, 0, 0) = 2
            told(1, 0, 1) = 4
            told(1, 0, 2) = 0
            told(1, 1, 0) = 5
            told(1, 1, 1) = 2
            told(1, 1, 2) = 3
            told(0, 0, 0) = 1
            """);
        E.edge(5, "A WEIGHT of thing x becomes w", "of a thing that is SEEN or DONE too", PAIR + """
            see(0, 1) = 1
            act(1, 2) = 1
            weight(0, 0, 0, 2) = 1
            weight(1, 1, 0, 5) = 1
            told(1, 1, 0) = 5
            """);
        E.edge(5, "ROWS: one for each way in which its PARENTS have values", "the last of 64, the last thing", """
            4 x thing(4, 100)
            arrow(0, 3) = 1
            arrow(1, 3) = 2
            arrow(2, 3) = 3
            weight(3, 63, 3, 100) = 0
            weight(3, {64 65 127}, 0, 0) ! -1
            weight(3, 63, 4, 0) ! -1
            told(3, 63, 3) = 100
            told(3, 62, 3) = 0
            """);
    }

    /** Things 3 and 4 have 64 ROWS each, things 2 and 5 stand beside them; all have TOTAL 9. */
    private static void neighbours() {
        String full = """
            5 x thing(4, 9)
            thing(2, 9) = 5
            arrow(0, {3 4}) = 1
            arrow(1, {3 4}) = 2
            row 2 0 : 1 2 3 3
            row 5 0 : 4 5
            """;
        E.edge(5, "A WEIGHT of thing x becomes w", "64 ROWS touch no thing beside them", full + """
            arrow(2, {3 4}) = 3
            weight(3, 63, 0, 7) = 9
            weight(3, 63, {1 2 3}, 8) = 0
            weight(4, 0, 0, 6) = 9
            weight(4, 63, 3, 5) = 0
            told(2, 0, 3) = 3
            told(3, 62, 0) = 9
            told(3, 63, 0) = 7
            told(3, 63, {1 2 3}) = 8
            told(4, 0, 0) = 6
            told(4, 0, {1 2 3}) = 0
            told(4, 63, 0) = 9
            told(4, 63, 3) = 5
            told(5, 0, 0) = 4
            told(5, 0, 1) = 5
            """);
        E.edge(3, "whenever a PARENT comes or goes, all ROWS have the TOTAL at value 0", "those of b alone", full + """
            row 4 15 : 1 1 1 6
            arrow(2, 3) = 3
            told(4, 15, 3) = 6
            told(2, 0, 0) = 1
            arrow(2, 4) = 3
            told(5, 0, 0) = 4
            told(5, 0, 1) = 5
            weight(4, 0, 0, 2) = 9
            weight(4, 0, 3, 7) = 0
            cut(2, 3) = 2
            told(4, 0, 0) = 2
            told(4, 0, 3) = 7
            cut(0, 4) = 2
            told(5, 0, 0) = 4
            told(5, 0, 1) = 5
            """);
    }

    private static void told() {
        E.edge(6, "no such thing", "numbers below, behind and far off", PAIR + """
            told({LOW -1 2 11 12 16777216 HIGH}, 0, 0) ! -1
            """);
        E.edge(6, "no such .. row", "below, behind, and those that wrap round", PAIR + """
            told(0, {LOW -1 1 64 1073741824 HIGH}, 0) ! -1
            told(1, {LOW -1 2 64 1073741824 HIGH}, 0) ! -1
            """);
        E.edge(6, "no such .. value", "below, behind, and those of the rows beside it", PAIR + """
            told(0, 0, {LOW -1 2 3 4 HIGH}) ! -1
            told(1, 1, {LOW -4 -1 3 4 HIGH}) ! -1
            """);
        E.edge(6, "A WEIGHT of thing x", "the first and the last", PAIR + """
            told(0, 0, 0) ! 1
            told(0, 0, 1) ! 3
            told(1, 0, 0) ! 2
            told(1, 1, 2) ! 3
            """);
        E.edge(6, "A WEIGHT of thing x", "rows that went, and came again", """
            2 x thing(2, 3)
            arrow(0, 1) = 1
            weight(1, 1, 1, 2) = 0
            cut(0, 1) = 0
            told(1, 1, {0 1}) ! -1
            arrow(0, 1) = 1
            told(1, 1, 0) = 3
            told(1, 1, 1) = 0
            """);
    }

    private static void rows() {
        String mixed = """
            thing(4, 9) = 0
            thing(2, 9) = 1
            thing(3, 9) = 2
            thing(2, 9) = 3
            arrow(2, 3) = 1
            arrow(0, 3) = 2
            arrow(1, 3) = 3
            """;
        E.edge(6, "from 0, for each PARENT in order, times how many values it has, and its value", "the first and the last ROW", mixed + """
            about(3, 3) = 24
            weight(3, 0, 0, 8) = 9
            weight(3, 0, 1, 1) = 0
            weight(3, 23, 0, 2) = 9
            weight(3, 23, 1, 7) = 0
            see(3, 1) = 1
            chance() = 1 : 1/9
            row 0 0 : 0 0 0 9
            row 1 0 : 0 9
            row 2 0 : 0 0 9
            chance() = 1 : 7/9
            """);
        E.edge(6, "from 0, for each PARENT in order, times how many values it has, and its value", "the first PARENT counts most", mixed + """
            row 3 8 : 5 4
            see(3, 1) = 1
            chance() = 1 : 0/1
            row 2 0 : 0 9 0
            chance() = 1 : 4/9
            row 1 0 : 0 9
            chance() = 1 : 0/1
            row 3 9 : 4 5
            chance() = 1 : 5/9
            row 0 0 : 0 0 9 0
            chance() = 1 : 0/1
            row 3 13 : 3 6
            chance() = 1 : 2/3
            """);
    }

    private static void about() {
        E.edge(7, "BAD: no such thing, what", "things", PAIR + """
            about({LOW -1 2 11 12 HIGH}, 0) ! -1
            about({LOW -1 2 11 12 HIGH}, {4 5 6}) ! -1
            """);
        E.edge(7, "BAD: no such thing, what", "what", PAIR + """
            about(0, {LOW -1 7 8 HIGH}) ! -1
            about(1, {LOW -1 7 8 HIGH}) ! -1
            about(0, 6) = -1
            about(1, 0) = 3
            """);
        E.edge(7, "2 how many PARENTS, 3 how many ROWS", "none to three PARENTS", """
            4 x thing(4, 1)
            about(3, 2) = 0
            about(3, 3) = 1
            arrow(0, 3) = 1
            about(3, 2) = 1
            about(3, 3) = 4
            arrow(1, 3) = 2
            about(3, 2) = 2
            about(3, 3) = 16
            arrow(2, 3) = 3
            about(3, 2) = 3
            about(3, 3) = 64
            about(0, 2) = 0
            """);
        E.edge(7, "4 1 if its TABLE is SOUND, else 0", "one too few, one too many, in the first or the last ROW", PAIR + """
            about(1, 4) = 1
            weight(1, 0, 0, 1) = 2
            about(1, 4) = 0
            weight(1, 0, 0, 3) = 1
            about(1, 4) = 0
            weight(1, 0, 0, 2) = 3
            about(1, 4) = 1
            weight(1, 1, 2, 2) = 3
            about(1, 4) = 0
            weight(1, 1, 2, 4) = 2
            about(1, 4) = 0
            about(0, 4) = 1
            """);
        E.edge(7, "4 1 if its TABLE is SOUND, else 0", "a table of noughts, and one that is twice the TOTAL", """
            thing(2, 100) = 0
            weight(0, 0, 0, 0) = 100
            about(0, 4) = 0
            weight(0, 0, 1, 100) = 0
            about(0, 4) = 1
            weight(0, 0, 0, 100) = 0
            about(0, 4) = 0
            """);
        E.edge(7, "4 1 if its TABLE is SOUND, else 0", "rows that make up for each other", PAIR + """
            weight(1, 0, 0, 1) = 2
            weight(1, 1, 0, 2) = 1
            about(1, 4) = 0
            """);
        E.edge(7, "4 1 if its TABLE is SOUND, else 0", "DONE or not, it is asked of the table", PAIR + """
            weight(1, 1, 0, 0) = 1
            act(1, 0) = 1
            about(1, 4) = 0
            sound() = 1
            """);
        E.edge(7, "5 the value as which it is SEEN (-1: it is not), 6 DONE (likewise)", "the first and the last value", PAIR + """
            see(1, 0) = 1
            about(1, 5) = 0
            about(1, 6) = -1
            see(1, 2) = 1
            about(1, 5) = 2
            act(1, 0) = 1
            about(1, 5) = -1
            about(1, 6) = 0
            act(1, 2) = 1
            about(1, 6) = 2
            about(0, {5 6}) = -1
            """);
    }

    private static void parent() {
        E.edge(8, "-2: there is none such", "k below and behind", """
            4 x thing(2, 1)
            parent(3, {LOW -1 0 1 2 3 HIGH}) ! -2
            arrow(2, 3) = 1
            parent(3, 0) = 2
            parent(3, {LOW -1 1 2 3 HIGH}) ! -2
            arrow(0, 3) = 2
            parent(3, 1) = 0
            parent(3, {LOW -1 2 3 HIGH}) ! -2
            arrow(1, 3) = 3
            parent(3, 2) = 1
            parent(3, {LOW -3 -1 3 4 HIGH}) ! -2
            """);
        E.edge(8, "-2: there is none such", "a PARENT of a thing that is none", PAIR + """
            parent({LOW -1 2 11 12 HIGH}, 0) ! -2
            parent({LOW -1 2 12 HIGH}, {LOW -1 3 HIGH}) ! -2
            """);
        E.edge(8, "PARENT k of thing x", "of a thing that is DONE too", PAIR + """
            act(1, 0) = 1
            parent(1, 0) = 0
            parent(1, 1) ! -2
            """);
    }

    private static void sound() {
        E.edge(9, "1 if the web is SOUND (and has things), else 0", "no things", """
            sound() ! 0
            options(3) = 0
            sound() ! 0
            thing(2, 1) = 0
            sound() ! 1
            """);
        E.edge(9, "A TABLE is SOUND if the WEIGHTS of each ROW together are the TOTAL", "the last ROW of the last thing", """
            11 x thing(2, 2)
            thing(4, 2) = 11
            arrow(8, 11) = 1
            arrow(9, 11) = 2
            arrow(10, 11) = 3
            sound() = 1
            weight(11, 7, 3, 1) = 0
            sound() = 0
            weight(11, 7, 0, 1) = 2
            sound() = 1
            weight(11, 7, 0, 0) = 1
            sound() = 0
            """);
        E.edge(9, "A web is SOUND if the TABLES of all things that are not DONE are", "SEEN is not DONE", PAIR + """
            weight(0, 0, 0, 0) = 1
            see(0, 1) = 1
            sound() = 0
            act(0, 1) = 1
            sound() = 1
            act(0, -1) = 1
            sound() = 0
            """);
        E.edge(9, "A web is SOUND if the TABLES of all things that are not DONE are", "another one is DONE, or all are", PAIR + """
            weight(0, 0, 0, 0) = 1
            act(1, 1) = 1
            sound() = 0
            weight(1, 0, 0, 0) = 2
            act(0, 0) = 1
            sound() = 1
            see(1, 0) = 1
            sound() = 0
            """);
        E.edge(9, "1 if the web is SOUND", "FORCES and nought do not matter", PAIR + """
            force(0, {0 1}, 0) = 1
            sound() = 1
            """);
    }
}
