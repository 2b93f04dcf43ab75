/** Promises 29 and 30, the terms of acts, and what holds for all calls, at their edges. */
public final class EdgeBackTest {
    private static final Edges E = new Edges();
    private static final String PAIR = Edges.PAIR;

    public static void main(String[] args) {
        undoNone(); undoKinds(); undoTables(); undoOptions(); hundred(); hundredRound(); undoAndThings();
        noActs(); count();
        farNumbers(); objectsAlone();
        E.end(29, 30);
    }

    private static void undoNone() {
        E.edge(29, "BAD: there is none", "a new object, a new thing, all undone", """
            undo() ! -1
            thing(2, 1) = 0
            undo() ! -1
            see(0, 1) = 1
            undo() = 0
            undo() ! -1
            """);
        E.edge(29, "how many are left", "all the way back, and forth again", PAIR + """
            undo() = 8
            undo() = 7
            undo() = 6
            undo() = 5
            undo() = 4
            undo() = 3
            undo() = 2
            undo() = 1
            undo() = 0
            undo() ! -1
            count(1) = 0
            told(0, 0, 0) = 4
            told(1, 0, 0) = 6
            told(1, 0, {1 2}) = 0
            arrow(1, 0) = 1
            count(3) = 1
            undo() = 0
            """);
        E.edge(29, "Acts that can be UNDONE", "undo is none: it can't be undone", PAIR + """
            see(0, 1) = 1
            undo() = 9
            count(3) = 9
            undo() = 8
            about(0, 5) = -1
            told(1, 1, 2) = 0
            """);
    }

    private static void undoKinds() {
        E.edge(29, "Acts that can be UNDONE: arrow", "the PARENT goes, the ring with it", """
            2 x thing(2, 1)
            arrow(0, 1) = 1
            undo() = 0
            parent(1, 0) = -2
            arrow(1, 0) = 1
            """);
        E.edge(29, "Acts that can be UNDONE: .. cut", "the PARENT comes back at its place", """
            4 x thing(2, 1)
            arrow(2, 3) = 1
            arrow(1, 3) = 2
            arrow(0, 3) = 3
            cut(1, 3) = 2
            undo() = 3
            parent(3, 0) = 2
            parent(3, 1) = 1
            parent(3, 2) = 0
            """);
        E.edge(29, "Acts that can be UNDONE: .. cut", "PARENTS from before the last thing was made", """
            4 x thing(2, 1)
            arrow(2, 3) = 1
            arrow(1, 3) = 2
            arrow(0, 3) = 3
            thing(2, 1) = 4
            cut(2, 3) = 2
            arrow(4, 3) = 3
            undo() = 1
            undo() = 0
            parent(3, 0) = 2
            parent(3, 1) = 1
            parent(3, 2) = 0
            about(3, 2) = 3
            """);
        E.edge(29, "Acts that can be UNDONE: .. weight", "to what it was, the last ROW and value too", """
            4 x thing(4, 9)
            arrow(0, 3) = 1
            arrow(1, 3) = 2
            arrow(2, 3) = 3
            weight(3, 63, 3, 5) = 0
            weight(3, 63, 3, 9) = 5
            undo() = 4
            told(3, 63, 3) = 5
            undo() = 3
            told(3, 63, 3) = 0
            """);
        E.edge(29, "Acts that can be UNDONE: .. see", "SEEN as another value, not SEEN, DONE", PAIR + """
            see(1, 0) = 1
            see(1, 2) = 1
            undo() = 10
            about(1, 5) = 0
            undo() = 9
            about(1, 5) = -1
            act(1, 1) = 1
            see(1, 2) = 1
            undo() = 10
            about(1, 5) = -1
            about(1, 6) = 1
            see(1, -1) = 1
            undo() = 10
            about(1, 6) = 1
            """);
        E.edge(29, "Acts that can be UNDONE: .. act", "DONE as another value, not DONE, SEEN", PAIR + """
            act(1, 0) = 1
            act(1, 2) = 1
            undo() = 10
            about(1, 6) = 0
            undo() = 9
            about(1, 6) = -1
            see(1, 1) = 1
            act(1, 2) = 1
            undo() = 10
            about(1, 6) = -1
            about(1, 5) = 1
            act(1, -1) = 1
            undo() = 10
            about(1, 5) = 1
            """);
        E.edge(29, "Acts that can be UNDONE: .. force", "to what it was", PAIR + """
            force(1, 2, 0) = 1
            force(1, 2, 3) = 0
            undo() = 10
            force(1, 2, 2) = 0
            undo() = 10
            undo() = 9
            force(1, 2, 2) = 1
            """);
        E.edge(29, "Acts that can be UNDONE: .. worth", "to what it was", PAIR + """
            options(6) = 0
            worth(5, 1, 2, -500) = 0
            worth(5, 1, 2, 500) = -500
            undo() = 11
            worth(5, 1, 2, 1) = -500
            undo() = 11
            undo() = 10
            worth(5, 1, 2, 1) = 0
            """);
    }

    private static void undoTables() {
        E.edge(29, "The latest act that can be undone is undone", "an ARROW that cleared a table brings it back", PAIR + """
            thing(2, 1) = 2
            arrow(2, 1) = 2
            weight(1, 3, 0, 0) = 6
            undo() = 1
            undo() = 0
            about(1, 3) = 2
            told(1, 0, 1) = 4
            told(1, 1, 2) = 3
            told(1, 2, 0) = -1
            ask(1, 2) = 1 : 3/8
            """);
        E.edge(29, "The latest act that can be undone is undone", "a cut that cleared a table brings it back", PAIR + """
            cut(0, 1) = 0
            weight(1, 0, 0, 0) = 6
            undo() = 10
            undo() = 9
            told(1, 0, 0) = 2
            told(1, 0, 1) = 4
            told(1, 1, 0) = 1
            told(1, 1, 2) = 3
            """);
        E.edge(29, "The latest act that can be undone is undone", "64 ROWS come back", """
            4 x thing(4, 3)
            arrow(0, 3) = 1
            arrow(1, 3) = 2
            arrow(2, 3) = 3
            weight(3, 0, 0, 1) = 3
            weight(3, 31, 2, 2) = 0
            weight(3, 63, 3, 3) = 0
            cut(1, 3) = 2
            cut(0, 3) = 1
            arrow(0, 3) = 2
            arrow(1, 3) = 3
            undo() = 9
            undo() = 8
            undo() = 7
            undo() = 6
            told(3, 0, 0) = 1
            told(3, 31, 2) = 2
            told(3, 63, 3) = 3
            told(3, 62, 0) = 3
            """);
    }

    private static void undoOptions() {
        E.edge(29, "Acts that can be UNDONE: .. options", "those that went come back with their WORTHS", PAIR + """
            options(6) = 0
            worth(0, 0, 0, 7) = 0
            worth(5, 1, 2, -7) = 0
            options(0) = 6
            undo() = 12
            count(2) = 6
            worth(0, 0, 0, 7) = 7
            worth(5, 1, 2, -7) = -7
            """);
        E.edge(29, "Acts that can be UNDONE: .. options", "they went and came again", PAIR + """
            options(2) = 0
            worth(1, 1, 2, -7) = 0
            options(1) = 2
            options(2) = 1
            worth(1, 1, 2, 3) = 0
            undo() = 13
            undo() = 12
            undo() = 11
            worth(1, 1, 2, 0) = -7
            """);
        E.edge(29, "Acts that can be UNDONE: .. options", "those that came go", """
            options(6) = 0
            options(0) = 6
            undo() = 1
            count(2) = 6
            undo() = 0
            count(2) = 0
            undo() ! -1
            """);
    }

    private static void hundred() {
        E.edge(29, "the latest 100 that were carried out", "99, 100 and 101", """
            thing(2, 2) = 0
            99 x see(0, 1)
            count(3) = 99
            see(0, 0) = 1
            count(3) = 100
            see(0, 0) = 1
            count(3) = 100
            undo() = 99
            see(0, 0) = 1
            count(3) = 100
            """);
        E.edge(29, "the latest 100 that were carried out", "the act before them stays done", """
            thing(2, 2) = 0
            force(0, 0, 3) = 1
            force(0, 0, 2) = 3
            99 x see(0, 1)
            count(3) = 100
            see(0, 0) = 1
            count(3) = 100
            99 x undo()
            count(3) = 1
            about(0, 5) = 1
            undo() = 0
            about(0, 5) = -1
            undo() ! -1
            force(0, 0, 0) = 2
            """);
        E.edge(29, "the latest 100 that were carried out", "just 100: the first of them is undone too", """
            thing(2, 2) = 0
            force(0, 0, 3) = 1
            99 x see(0, 1)
            99 x undo()
            undo() = 0
            undo() ! -1
            force(0, 0, 0) = 1
            """);
        E.edge(29, "the latest 100 that were carried out", "a refused act pushes none out", """
            thing(2, 2) = 0
            force(0, 0, 3) = 1
            99 x see(0, 1)
            see(0, {-2 2}) ! -1
            see(1, 0) ! -1
            weight(0, 0, 0, 3) ! -1
            arrow(0, 0) ! -1
            cut(0, 0) ! -1
            act(0, 2) ! -1
            force(0, 0, 4) ! -1
            options(7) ! -1
            worth(0, 0, 0, 0) ! 10000
            count(3) = 100
            99 x undo()
            undo() = 0
            force(0, 0, 0) = 1
            """);
        E.edge(29, "the latest 100 that were carried out", "an act with no effect pushes one out too", """
            thing(2, 2) = 0
            force(0, 0, 3) = 1
            99 x see(0, 1)
            see(0, 1) = 1
            count(3) = 100
            100 x undo()
            undo() ! -1
            force(0, 0, 0) = 3
            """);
    }

    private static void hundredRound() {
        E.edge(29, "the latest 100 that were carried out", "a cleared table and options from before them", PAIR + """
            options(2) = 0
            worth(1, 1, 2, 9) = 0
            cut(0, 1) = 0
            options(1) = 2
            100 x see(0, 1)
            count(3) = 100
            100 x undo()
            undo() ! -1
            count(2) = 1
            about(1, 3) = 1
            told(1, 0, 0) = 6
            options(2) = 1
            worth(1, 1, 2, 9) = 0
            told(0, 0, 1) = 3
            """);
        E.edge(29, "and not undone", "more than 100 forth, some back, forth again", """
            thing(4, 2) = 0
            90 x see(0, 1)
            50 x undo()
            count(3) = 40
            59 x see(0, 2)
            count(3) = 99
            see(0, 3) = 1
            count(3) = 100
            see(0, 0) = 1
            count(3) = 100
            undo() = 99
            about(0, 5) = 3
            undo() = 98
            about(0, 5) = 2
            59 x undo()
            about(0, 5) = 1
            count(3) = 39
            38 x undo()
            undo() = 0
            about(0, 5) = 1
            undo() ! -1
            """);
        E.edge(29, "the latest 100 that were carried out", "twice round", """
            thing(4, 100) = 0
            110 x see(0, 1)
            110 x see(0, 2)
            weight(0, 0, 3, 77) = 0
            count(3) = 100
            undo() = 99
            told(0, 0, 3) = 0
            about(0, 5) = 2
            98 x undo()
            undo() = 0
            about(0, 5) = 2
            undo() ! -1
            """);
        E.edge(29, "the latest 100 that were carried out", "each kind falls out of them", """
            4 x thing(2, 9)
            arrow(0, 3) = 1
            arrow(1, 3) = 2
            arrow(2, 3) = 3
            weight(3, 7, 1, 4) = 0
            cut(0, 3) = 2
            weight(3, 3, 1, 5) = 0
            see(0, 1) = 1
            act(1, 1) = 1
            force(2, 1, 3) = 1
            options(3) = 0
            worth(2, 3, 1, -8) = 0
            100 x see(2, 1)
            100 x undo()
            undo() ! -1
            parent(3, 0) = 1
            parent(3, 1) = 2
            parent(3, 2) = -2
            told(3, 3, 1) = 5
            told(3, 3, 0) = 9
            about(0, 5) = 1
            about(1, 6) = 1
            about(2, 5) = -1
            force(2, 1, 3) = 3
            worth(2, 3, 1, 0) = -8
            """);
    }

    private static void undoAndThings() {
        E.edge(29, "what was done before it was made can't be undone any more then", "acts behind it can", """
            thing(2, 1) = 0
            options(2) = 0
            see(0, 1) = 1
            thing(3, 1) = 1
            count(3) = 0
            undo() ! -1
            arrow(0, 1) = 1
            see(1, 2) = 1
            undo() = 1
            undo() = 0
            undo() ! -1
            about(0, 5) = 1
            count(1) = 0
            count(2) = 2
            """);
        E.edge(29, "what was done before it was made can't be undone any more then", "more than 100 acts before it", """
            thing(2, 1) = 0
            130 x see(0, 1)
            thing(2, 1) = 1
            count(3) = 0
            undo() ! -1
            99 x see(1, 1)
            force(0, 1, 2) = 1
            count(3) = 100
            100 x undo()
            undo() ! -1
            about(0, 5) = 1
            about(1, 5) = -1
            force(0, 1, 1) = 1
            """);
        E.edge(29, "A thing that is made can't be", "no undo takes it away", """
            thing(2, 1) = 0
            see(0, 0) = 1
            undo() = 0
            undo() ! -1
            count(0) = 1
            """);
    }

    private static void noActs() {
        E.edge(29, "Acts that can be UNDONE: arrow, cut, weight, see, force, act, options, worth", "each counts one", """
            2 x thing(2, 1)
            arrow(0, 1) = 1
            count(3) = 1
            cut(0, 1) = 0
            count(3) = 2
            weight(0, 0, 0, 1) = 1
            count(3) = 3
            see(0, 0) = 1
            count(3) = 4
            force(0, 0, 1) = 1
            count(3) = 5
            act(0, 0) = 1
            count(3) = 6
            options(1) = 0
            count(3) = 7
            worth(0, 0, 0, 0) = 0
            count(3) = 8
            """);
        E.edge(29, "Acts that can be UNDONE: arrow, cut, weight, see, force, act, options, worth", "no other call counts", PAIR + """
            options(1) = 0
            told(0, 0, 0) ! 1
            about(0, 0) ! 2
            parent(1, 0) ! 0
            sound() ! 1
            chance() = 1
            ask(0, 0) = 1
            both(0, 0, 1, 1) = 1
            up() ! 1
            down() ! 6
            most(0) ! 1
            likeliest(0) = 1
            at(0) ! 1
            wholes() ! 5
            apart(0, 1) ! 0
            expected(0) = 1
            best() = 0
            gain(0) = 1
            next() = 0
            count(3) = 10
            """);
    }

    private static void count() {
        E.edge(30, "BAD: another what", "below and behind", PAIR + """
            count({LOW -2 -1 4 5 HIGH}) ! -1
            """);
        E.edge(30, "0 things", "none to twelve", """
            count(0) ! 0
            thing(2, 1) = 0
            count(0) ! 1
            thing(1, 1) ! -1
            10 x thing(2, 1)
            count(0) ! 11
            thing(2, 1) = 11
            count(0) ! 12
            thing(2, 1) ! -3
            count(0) ! 12
            """);
        E.edge(30, "1 ARROWS", "to things that are DONE too; cut and undone", PAIR + """
            count(1) ! 1
            act(1, 0) = 1
            count(1) ! 1
            cut(0, 1) = 0
            count(1) ! 0
            undo() = 10
            count(1) ! 1
            arrow(0, 1) ! -1
            arrow(1, 0) ! -2
            count(1) ! 1
            """);
        E.edge(30, "1 ARROWS", "to the first thing and to the last", """
            12 x thing(2, 1)
            arrow(1, 0) = 1
            count(1) ! 1
            arrow(1, 11) = 1
            count(1) ! 2
            arrow(11, 0) = 2
            count(1) ! 3
            """);
        E.edge(30, "2 options", "none to six", """
            count(2) ! 0
            options(6) = 0
            count(2) ! 6
            options(7) ! -1
            count(2) ! 6
            options(0) = 6
            count(2) ! 0
            """);
        E.edge(30, "3 acts that can be undone", "none to 100", """
            count(3) ! 0
            undo() ! -1
            count(3) ! 0
            thing(2, 1) = 0
            count(3) ! 0
            100 x see(0, 0)
            count(3) ! 100
            see(0, 0) = 1
            count(3) ! 100
            undo() = 99
            count(3) ! 99
            """);
    }

    private static void farNumbers() {
        String far = "{LOW -2147483647 -1073741824 -65536 -257 -13 1073741824 16777216 65536 2147483646 HIGH}";
        E.edge(29, "BAD (-1): no such thing, value, row, option, or a number is not as said", "numbers far off, one in each place", PAIR + """
            options(2) = 0
            thing(FAR, 1) ! -1
            thing(2, FAR) ! -1
            arrow(FAR, 1) ! -1
            arrow(0, FAR) ! -1
            cut(FAR, 1) ! -1
            cut(0, FAR) ! -1
            """.replace("FAR", far));
        E.edge(29, "BAD (-1): no such thing, value, row, option, or a number is not as said", "of a table", PAIR + """
            weight(FAR, 0, 0, 0) ! -1
            weight(0, FAR, 0, 0) ! -1
            weight(0, 0, FAR, 0) ! -1
            weight(0, 0, 0, FAR) ! -1
            told(FAR, 0, 0) ! -1
            told(0, FAR, 0) ! -1
            told(0, 0, FAR) ! -1
            about(FAR, 0) ! -1
            about(0, FAR) ! -1
            parent(FAR, 0) ! -2
            parent(1, FAR) ! -2
            """.replace("FAR", far));
        E.edge(29, "BAD (-1): no such thing, value, row, option, or a number is not as said", "of what is known and asked", PAIR + """
            see(FAR, 0) ! -1
            see(0, FAR) ! -1
            act(FAR, 0) ! -1
            act(0, FAR) ! -1
            force(FAR, 0, 1) ! -1
            force(0, FAR, 1) ! -1
            force(0, 0, FAR) ! -1
            ask(FAR, 0) ! -1
            ask(0, FAR) ! -1
            both(FAR, 0, 0, 0) ! -1
            both(0, FAR, 0, 0) ! -1
            both(0, 0, FAR, 0) ! -1
            both(0, 0, 0, FAR) ! -1
            most(FAR) ! -1
            likeliest(FAR) ! -1
            at(FAR) ! -2
            apart(FAR, 0) ! -1
            apart(0, FAR) ! -1
            """.replace("FAR", far));
        E.edge(30, "BAD (-1): no such thing, value, row, option, or a number is not as said", "of options and counts", PAIR + """
            options(FAR) ! -1
            options(2) = 0
            worth(FAR, 0, 0, 1) ! 10000
            worth(0, FAR, 0, 1) ! 10000
            worth(0, 0, FAR, 1) ! 10000
            expected(FAR) ! -1
            gain(FAR) ! -1
            count(FAR) ! -1
            """.replace("FAR", far));
    }

    /** "All memory is the class's own": what one object is told, another does not know. */
    private static void objectsAlone() {
        BeliefWeb first = new BeliefWeb(), second = new BeliefWeb();
        first.thing(2, 3);
        first.options(4);
        first.see(0, 1);
        first.force(0, 1, 3);
        first.chance();
        first.see(0, 0);
        first.likeliest(0);
        alone(second.count(0) == 0 && second.count(2) == 0 && second.count(3) == 0, "counts");
        alone(second.undo() == -1 && second.at(0) == -2 && second.up() == 0 && second.down() == 0, "back, shown and told");
        second.thing(4, 5);
        alone(second.about(0, 5) == -1 && second.force(0, 1, 1) == 1 && second.told(0, 0, 0) == 5, "a thing");
        alone(first.about(0, 0) == 2 && first.about(0, 5) == 0 && first.count(3) == 4 && first.at(0) == 0, "the first one");
    }

    private static void alone(boolean holds, String what) {
        E.edge(30, "All memory is the class's own", what, "");
        if (!holds) E.fault("two objects share it");
    }
}
