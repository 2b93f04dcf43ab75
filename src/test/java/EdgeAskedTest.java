/** Promises 13 to 22 and the terms of what is asked at their edges. */
public final class EdgeAskedTest {
    private static final Edges E = new Edges();
    private static final String PAIR = Edges.PAIR, NOUGHT = Edges.NOUGHT, ROUGH = Edges.ROUGH;

    /** Ten WHOLES with a LIKELIHOOD above 0: one of 12, two of 6, three of 4, four of 3, together 48. */
    private static final String TEN = """
        thing(4, 4) = 0
        thing(4, 12) = 1
        arrow(0, 1) = 1
        row 0 0 : 1 1 1 1
        row 1 0 : 3 3 3 3
        row 1 1 : 4 4 4 0
        row 1 2 : 6 6 0 0
        row 1 3 : 12 0 0 0
        """;

    public static void main(String[] args) {
        chance(); ask(); both();
        up(); down(); longFractions();
        most(); likeliestNumbers(); likeliestOrder(); at(); wholes();
        apartNumbers(); apartRoads(); apartMeetings(); apartDone(); apartEnds();
        E.end(13, 22);
    }

    private static void chance() {
        E.edge(13, "THE SUM divided by ALL is told", "nothing known, one of a thousand million, all of it", """
            4 x thing(2, 100)
            thing(2, 10) = 4
            chance() = 1 : 1/1
            row 0 0 : 99 1
            row 1 0 : 99 1
            row 2 0 : 99 1
            row 3 0 : 99 1
            row 4 0 : 9 1
            chance() = 1 : 1/1
            see({0 1 2 3 4}, 1) = 1
            chance() = 1 : 1/1000000000
            """);
        E.edge(13, "NOUGHT does not come here", "THE SUM is 0", PAIR + NOUGHT + """
            chance() = 1 : 0/1
            """);
        E.edge(13, "ROUGH (-4): the web is not SOUND, or has no things", "no things, a ROW too light, THE SUM 0 as well", """
            chance() ! -4
            """ + PAIR + """
            ask(1, 1) = 1 : 5/12
            """ + ROUGH + """
            chance() ! -4
            up() = 5
            down() = 12
            """ + NOUGHT + """
            chance() ! -4
            """);
        E.edge(13, "FORCES may make it greater than that", "above 1", PAIR + """
            force(1, 2, 3) = 1
            chance() = 1 : 7/4
            """);
        E.edge(13, "THE SUM divided by ALL is told", "twelve things with FORCE 3, 10^9 in ALL", """
            9 x thing(2, 10)
            3 x thing(2, 1)
            force({0 1 2 3 4 5 6 7 8 9 10 11}, {0 1}, 3) = 1
            chance() = 1 : 531441/1
            see(11, 1) = 1
            chance() = 1 : 0/1
            """);
        E.edge(13, "THE SUM divided by ALL is told", "all things are DONE", PAIR + """
            act(0, 0) = 1
            act(1, 2) = 1
            chance() = 1 : 1/1
            """);
    }

    private static void ask() {
        E.edge(14, "no such thing, value", "numbers below, behind and far off", PAIR + """
            ask(1, 1) = 1 : 5/12
            ask({LOW -1 2 11 12 1073741824 HIGH}, 0) ! -1
            ask(0, {LOW -1 2 3 4 HIGH}) ! -1
            ask(1, {LOW -4 -1 3 4 HIGH}) ! -1
            up() = 5
            """);
        E.edge(14, "Answers, of several the one named first", "BAD before ROUGH before NOUGHT", PAIR + NOUGHT + """
            ask(0, 2) ! -1
            ask(0, 0) ! -5
            """ + ROUGH + """
            ask(2, 0) ! -1
            ask(0, 2) ! -1
            ask(0, 0) ! -4
            """);
        E.edge(14, "The CHANCE that x has a value is told", "0 and 1", PAIR + """
            see(1, 2) = 1
            ask(0, 0) = 1 : 0/1
            ask(0, 1) = 1 : 1/1
            ask(1, 2) = 1 : 1/1
            ask(1, {0 1}) = 1 : 0/1
            """);
        E.edge(14, "The CHANCE that x has a value is told", "of a thing that is DONE", PAIR + """
            act(1, 2) = 1
            ask(1, 2) = 1 : 1/1
            ask(1, {0 1}) = 1 : 0/1
            ask(0, 0) = 1 : 1/4
            """);
        E.edge(14, "The CHANCE that x has a value is told", "divided by THE SUM, not by ALL", PAIR + """
            force(0, 0, 3) = 1
            force(0, 1, 3) = 1
            ask(0, 1) = 1 : 3/4
            force(0, 1, 0) = 3
            ask(0, 0) = 1 : 1/1
            """);
        E.edge(14, "NOUGHT (-5): THE SUM is 0", "by FORCES alone", PAIR + """
            ask(0, 0) = 1 : 1/4
            force(0, {0 1}, 0) = 1
            ask(0, {0 1}) ! -5
            ask(1, {0 1 2}) ! -5
            up() = 1
            down() = 4
            """);
        E.edge(14, "ROUGH (-4): the web is not SOUND", "another thing's table", PAIR + ROUGH + """
            ask(0, 0) ! -4
            act(1, 0) = 1
            ask(0, 0) = 1 : 1/4
            """);
        E.edge(14, "ARROWS lead from a thing, a PARENT, to another one, its CHILD", "twelve in a row, from the last to the first", """
            12 x thing(2, 2)
            wholes() = 1
            arrow(11, 10) = 1
            arrow(10, 9) = 1
            arrow(9, 8) = 1
            arrow(8, 7) = 1
            arrow(7, 6) = 1
            arrow(6, 5) = 1
            arrow(5, 4) = 1
            arrow(4, 3) = 1
            arrow(3, 2) = 1
            arrow(2, 1) = 1
            arrow(1, 0) = 1
            row 11 0 : 1 1
            weight({0 1 2 3 4 5 6 7 8 9 10}, 1, 0, 0) = 2
            weight({0 1 2 3 4 5 6 7 8 9 10}, 1, 1, 2) = 0
            ask({0 11}, 1) = 1 : 1/2
            both(0, 1, 11, 0) = 1 : 0/1
            see(11, 1) = 1
            ask({0 1 10 11}, 1) = 1 : 1/1
            wholes() = 1
            likeliest(0) = 1 : 1/1
            at({0 11}) = 1
            """);
        E.edge(14, "The CHANCE that x has a value is told", "the last value of the last of twelve things", """
            11 x thing(2, 2)
            thing(4, 2) = 11
            row 11 0 : 0 0 1 1
            ask(11, 3) = 1 : 1/2
            ask(11, 0) = 1 : 0/1
            ask(11, 4) ! -1
            ask(12, 0) ! -1
            """);
    }

    private static void both() {
        E.edge(15, "no such thing, value", "each of the four numbers", PAIR + """
            both({LOW -1 2 12 HIGH}, 0, 1, 0) ! -1
            both(0, {LOW -1 2 HIGH}, 1, 0) ! -1
            both(0, 0, {LOW -1 2 12 HIGH}, 0) ! -1
            both(0, 0, 1, {LOW -1 3 HIGH}) ! -1
            both(1, 2, 0, 1) = 1 : 3/8
            """);
        E.edge(15, "Likewise", "BAD before ROUGH before NOUGHT", PAIR + NOUGHT + """
            both(0, 2, 1, 0) ! -1
            both(0, 0, 1, 3) ! -1
            both(0, 0, 1, 0) ! -5
            """ + ROUGH + """
            both(2, 0, 1, 0) ! -1
            both(0, 0, 1, 3) ! -1
            both(0, 0, 1, 0) ! -4
            """);
        E.edge(15, "The CHANCE that x has the value v, and y the value w", "x is y", PAIR + """
            both(1, 1, 1, 1) = 1 : 5/12
            both(1, 1, 1, {0 2}) = 1 : 0/1
            both(0, 0, 0, 1) = 1 : 0/1
            both(0, 1, 0, 1) = 1 : 3/4
            """);
        E.edge(15, "The CHANCE that x has the value v, and y the value w", "0 and 1, and the two turned round", PAIR + """
            both(0, 0, 1, 2) = 1 : 0/1
            both(1, 2, 0, 0) = 1 : 0/1
            both(0, 1, 1, 0) = 1 : 1/8
            both(1, 0, 0, 1) = 1 : 1/8
            see(1, 2) = 1
            both(0, 1, 1, 2) = 1 : 1/1
            both(1, 2, 0, 1) = 1 : 1/1
            """);
    }

    private static void up() {
        E.edge(16, "both 0 at first", "and as long as nothing is told", PAIR + """
            up() ! 0
            most(0) ! 1
            wholes() ! 5
            apart(0, 1) ! 0
            ask(0, 2) ! -1
            likeliest(5) ! 0
            up() ! 0
            """);
        E.edge(16, "UP of what was told last", "calls that tell nothing", PAIR + """
            options(1) = 0
            ask(1, 1) = 1 : 5/12
            most(1) ! 1
            wholes() ! 5
            apart(0, 1) ! 0
            likeliest(5) ! 0
            up() ! 5
            see({0 1}, 1) = 1
            next() ! -6
            undo() = 11
            undo() = 10
            thing(2, 1) = 2
            up() ! 5
            """);
        E.edge(16, "in lowest terms", "below 0, and 0", PAIR + """
            options(1) = 0
            worth(0, 0, 0, -6) = 0
            expected(0) = 1 : -3/2
            worth(0, 0, 0, 6) = -6
            expected(0) = 1 : 3/2
            worth(0, 0, 1, -2) = 0
            expected(0) = 1 : 0/1
            """);
    }

    private static void down() {
        E.edge(17, "both 0 at first", "and as long as nothing is told", PAIR + """
            down() ! 0
            most(0) ! 1
            wholes() ! 5
            apart(0, 1) ! 0
            ask(0, 2) ! -1
            likeliest(5) ! 0
            down() ! 0
            """);
        E.edge(17, "DOWN above 0", "of a fraction that is 0, whole, or below 0", PAIR + """
            options(1) = 0
            expected(0) = 1 : 0/1
            worth(0, 0, {0 1}, -500) = 0
            expected(0) = 1 : -500/1
            worth(0, 0, 1, 0) = -500
            worth(0, 0, 0, -1) = -500
            expected(0) = 1 : -1/4
            """);
        E.edge(17, "DOWN of it", "refused calls leave it", PAIR + """
            ask(1, 1) = 1 : 5/12
            """ + ROUGH + """
            chance() ! -4
            ask(0, 0) ! -4
            both(0, 0, 1, 1) ! -4
            likeliest(0) ! -4
            expected(0) ! -1
            best() ! -1
            gain(0) ! -1
            next() ! -1
            options(1) = 0
            expected(0) ! -4
            best() ! -4
            gain(0) ! -4
            next() ! -4
            down() ! 12
            up() ! 5
            """);
    }

    /** Nine things: 7 and 3 of 10, with FORCES 2 and 3. THE SUM is 23^9, the likeliest WHOLE's LIKELIHOOD 14^9. */
    private static void longFractions() {
        String nine = """
            9 x thing(2, 10)
            weight({0 1 2 3 4 5 6 7 8}, 0, 0, 7) = 10
            weight({0 1 2 3 4 5 6 7 8}, 0, 1, 3) = 0
            force({0 1 2 3 4 5 6 7 8}, 0, 2) = 1
            force({0 1 2 3 4 5 6 7 8}, 1, 3) = 1
            """;
        E.edge(16, "FRACTION that is told stands in UP and DOWN", "an UP beyond an int", nine + """
            chance() = 1 : 1801152661463/1000000000
            likeliest(0) = 1 : 20661046784/1801152661463
            """);
        E.edge(17, "FRACTION that is told stands in UP and DOWN", "a DOWN beyond an int, the FRACTION below 0", """
            9 x thing(2, 10)
            row 0 0 : 7 3
            row 1 0 : 7 3
            row 2 0 : 7 3
            row 3 0 : 9 1
            row 4 0 : 9 1
            row 5 0 : 9 1
            row 6 0 : 5 5
            row 7 0 : 7 3
            row 8 0 : 9 1
            force({0 2 4 6}, 0, 2) = 1
            force({3 7 8}, 0, 3) = 1
            force({0 6}, 1, 3) = 1
            force({1 3 5 7}, 1, 2) = 1
            options(1) = 0
            worth(0, {0 1 2 3 4 5 6 7 8}, 0, -1) = 0
            expected(0) = 1 : -264325844177/38818159380
            """);
    }

    private static void most() {
        E.edge(18, "no such thing", "numbers below, behind and far off", PAIR + """
            most({LOW -1 2 11 12 HIGH}) ! -1
            """);
        E.edge(18, "BAD, ROUGH, NOUGHT", "of several the one named first", PAIR + NOUGHT + """
            most(2) ! -1
            most({0 1}) ! -5
            """ + ROUGH + """
            most(2) ! -1
            most({0 1}) ! -4
            """);
        E.edge(18, "of several the least", "two alike, all alike", """
            thing(4, 8) = 0
            row 0 0 : 2 2 2 2
            most(0) ! 0
            row 0 0 : 1 2 2 3
            most(0) ! 3
            row 0 0 : 0 1 3 4
            force(0, 3, 0) = 1
            most(0) ! 2
            row 0 0 : 1 3 3 1
            most(0) ! 1
            force(0, 0, 3) = 1
            most(0) ! 0
            """);
        E.edge(18, "The value that has the greatest CHANCE for x", "the first and the last value", """
            thing(4, 100) = 0
            most(0) ! 0
            row 0 0 : 0 0 0 100
            most(0) ! 3
            row 0 0 : 24 25 25 26
            most(0) ! 3
            row 0 0 : 26 25 25 24
            most(0) ! 0
            """);
        E.edge(18, "The value that has the greatest CHANCE for x", "not that of the thing beside it", """
            3 x thing(4, 4)
            row 1 0 : 1 1 1 1
            most(1) ! 0
            row 0 0 : 0 0 0 4
            row 2 0 : 0 0 0 4
            most(1) ! 0
            """);
        E.edge(18, "The value that has the greatest CHANCE for x", "the last of twelve, of four values", """
            11 x thing(2, 4)
            thing(4, 4) = 11
            most(11) ! 0
            row 11 0 : 1 1 0 2
            most(11) ! 3
            most(12) ! -1
            """);
        E.edge(18, "The value that has the greatest CHANCE for x", "SEEN or DONE", PAIR + """
            see(1, 0) = 1
            most(1) ! 0
            act(1, 2) = 1
            most(1) ! 2
            """);
    }

    private static void likeliestNumbers() {
        E.edge(19, "k 0 .. 9", "too small and too large", TEN + """
            likeliest({LOW -1 10 11 HIGH}) ! -1
            likeliest(0) = 1 : 1/4
            likeliest({LOW -1 10 11 HIGH}) ! -1
            """);
        E.edge(19, "BAD, ROUGH", "BAD comes first, no things are ROUGH", """
            likeliest({-1 10}) ! -1
            likeliest({0 9}) ! -4
            """ + PAIR + ROUGH + """
            likeliest({-1 10}) ! -1
            likeliest({0 9}) ! -4
            """);
        E.edge(19, "0, and nothing changes: there are not so many", "THE SUM is 0", PAIR + """
            likeliest(1) = 1 : 1/4
            """ + NOUGHT + """
            likeliest({0 1 9}) ! 0
            likeliest({-1 10}) ! -1
            at(0) = 1
            at(1) = 1
            up() = 1
            down() = 4
            """);
        E.edge(19, "0, and nothing changes: there are not so many", "one WHOLE, and no second", PAIR + """
            see(1, 2) = 1
            likeliest(1) ! 0
            at({0 1}) = -2
            likeliest(0) = 1 : 1/1
            likeliest({1 2 9}) ! 0
            at(0) = 1
            at(1) = 2
            """);
        E.edge(19, "0, and nothing changes: there are not so many", "nine WHOLES, and no tenth", TEN + """
            row 1 0 : 4 4 4 0
            wholes() = 9
            likeliest(8) = 1 : 1/12
            at(0) = 1
            at(1) = 2
            likeliest(9) ! 0
            """);
        E.edge(19, "its LIKELIHOOD divided by THE SUM is told", "not by ALL", PAIR + """
            see(0, 1) = 1
            likeliest(0) = 1 : 1/2
            force(0, 1, 3) = 1
            likeliest(0) = 1 : 1/2
            likeliest(2) = 1 : 1/6
            """);
    }

    private static void likeliestOrder() {
        E.edge(19, "The k-th (k 0 .. 9) of the LIKELIEST", "the first and the last of ten", TEN + """
            wholes() = 10
            likeliest(0) = 1 : 1/4
            at(0) = 3
            at(1) = 0
            likeliest(9) = 1 : 1/16
            at(0) = 0
            at(1) = 3
            """);
        E.edge(19, "The k-th (k 0 .. 9) of the LIKELIEST", "the tenth of eleven, and of sixteen that are alike", TEN + """
            row 1 1 : 3 3 3 3
            wholes() = 11
            likeliest(9) = 1 : 1/16
            at(0) = 1
            at(1) = 2
            row 1 2 : 3 3 3 3
            row 1 3 : 3 3 3 3
            likeliest(9) = 1 : 1/16
            at(0) = 2
            at(1) = 1
            """);
        E.edge(19, "of like ones the one whose values come first (thing 0's first; the lesser)", "within ten", TEN + """
            likeliest(1) = 1 : 1/8
            at(0) = 2
            at(1) = 0
            likeliest(2) = 1 : 1/8
            at(0) = 2
            at(1) = 1
            likeliest(3) = 1 : 1/12
            at(0) = 1
            at(1) = 0
            likeliest(5) = 1 : 1/12
            at(1) = 2
            likeliest(6) = 1 : 1/16
            at(0) = 0
            at(1) = 0
            """);
        E.edge(19, "of like ones the one whose values come first (thing 0's first; the lesser)", "PARENTS with greater numbers", """
            2 x thing(2, 2)
            arrow(1, 0) = 1
            row 1 0 : 1 1
            row 0 0 : 1 1
            row 0 1 : 1 1
            likeliest(1) = 1 : 1/4
            at(0) = 0
            at(1) = 1
            likeliest(2) = 1 : 1/4
            at(0) = 1
            at(1) = 0
            """);
        E.edge(19, "WHOLES with a LIKELIHOOD above 0, the greatest first", "the least that can be is one", """
            4 x thing(2, 100)
            thing(2, 10) = 4
            row 0 0 : 99 1
            row 1 0 : 99 1
            row 2 0 : 99 1
            row 3 0 : 99 1
            row 4 0 : 9 1
            see({0 1 2 3}, 1) = 1
            wholes() = 2
            likeliest(1) = 1 : 1/10
            at(4) = 1
            likeliest(2) ! 0
            """);
        E.edge(19, "WHOLES with a LIKELIHOOD above 0, the greatest first", "LIKELIHOODS beyond an int", """
            9 x thing(2, 10)
            3 x thing(2, 1)
            force({0 1 2 3 4 5 6 7 8 9 10 11}, 0, 3) = 1
            force(0, 1, 3) = 1
            row 0 0 : 4 6
            likeliest(0) = 1 : 3/5
            at(0) = 1
            at(11) = 0
            likeliest(1) = 1 : 2/5
            at(0) = 0
            likeliest(2) ! 0
            """);
    }

    private static void at() {
        E.edge(20, "-2: there is none", "no WHOLE was shown", PAIR + """
            at({LOW -1 0 1 2 11 12 HIGH}) ! -2
            ask(0, 0) = 1
            likeliest(5) ! 0
            likeliest(10) ! -1
            at({0 1}) ! -2
            """);
        E.edge(20, "-2: there is none", "things below and behind", PAIR + """
            likeliest(0) = 1
            at({LOW -2 -1 2 3 11 12 HIGH}) ! -2
            at(0) ! 1
            at(1) ! 2
            """);
        E.edge(20, "-2: there is none", "a thing made later", PAIR + """
            likeliest(0) = 1
            thing(2, 1) = 2
            at(2) ! -2
            at(1) ! 2
            likeliest(0) = 1
            at(2) ! 0
            at(3) ! -2
            """);
        E.edge(20, "in the WHOLE that was shown last", "what comes behind it does not matter", PAIR + """
            likeliest(0) = 1
            see(0, 0) = 1
            act(1, 0) = 1
            at(0) ! 1
            at(1) ! 2
            undo() = 10
            undo() = 9
            undo() = 8
            likeliest(0) ! -4
            at(0) ! 1
            at(1) ! 2
            """);
        E.edge(20, "in the WHOLE that was shown last", "the twelfth thing, the last value", """
            11 x thing(2, 1)
            thing(4, 1) = 11
            row 11 0 : 0 0 0 1
            likeliest(0) = 1 : 1/1
            at({0 10}) ! 0
            at(11) ! 3
            at(12) ! -2
            """);
    }

    private static void wholes() {
        E.edge(21, "ROUGH", "no things, a ROW too light, a ROW too heavy", """
            wholes() ! -4
            """ + PAIR + ROUGH + """
            wholes() ! -4
            weight(1, 1, 2, 4) = 2
            wholes() ! -4
            weight(1, 1, 2, 3) = 4
            wholes() ! 5
            """);
        E.edge(21, "How many WHOLES have a LIKELIHOOD above 0", "none", PAIR + NOUGHT + """
            wholes() ! 0
            """);
        E.edge(21, "How many WHOLES have a LIKELIHOOD above 0", "one, and all but one", PAIR + """
            act(0, 0) = 1
            act(1, 2) = 1
            wholes() ! 1
            act(0, -1) = 1
            wholes() ! 2
            act(1, -1) = 1
            wholes() ! 5
            force(1, 1, 0) = 1
            wholes() ! 3
            """);
        E.edge(21, "How many WHOLES have a LIKELIHOOD above 0", "19683, the most there can be", """
            9 x thing(3, 3)
            weight({0 1 2 3 4 5 6 7 8}, 0, 0, 1) = 3
            weight({0 1 2 3 4 5 6 7 8}, 0, {1 2}, 1) = 0
            wholes() = 19683
            """);
    }

    private static void apartNumbers() {
        E.edge(22, "BAD", "things below and behind", PAIR + """
            apart({LOW -1 2 11 12 HIGH}, 0) ! -1
            apart(0, {LOW -1 2 11 12 HIGH}) ! -1
            apart(2, 2) ! -1
            apart(-1, -1) ! -1
            """);
        E.edge(22, "else 0 (also if x is y)", "free, SEEN, DONE, alone", """
            3 x thing(2, 1)
            see(1, 0) = 1
            act(2, 0) = 1
            apart(0, 0) ! 0
            apart(1, 1) ! 0
            apart(2, 2) ! 0
            apart(0, {1 2}) ! 1
            apart(1, {0 2}) ! 1
            """);
        E.edge(22, "what hangs on what told by the web alone", "a web that is not SOUND, or without a CHANCE", PAIR + ROUGH + """
            apart(0, 1) ! 0
            """ + NOUGHT + """
            apart(0, 1) ! 0
            force(0, {0 1}, 0) = 1
            apart(1, 0) ! 0
            """);
    }

    private static void apartRoads() {
        E.edge(22, "A ROAD goes from the one to the other along ARROWS, in their direction or against it", "one ARROW, or none", """
            3 x thing(2, 1)
            arrow(2, 0) = 1
            apart(0, 2) ! 0
            apart(2, 0) ! 0
            apart(0, 1) ! 1
            apart(1, 2) ! 1
            """);
        E.edge(22, "no other thing between is SEEN or DONE", "a row, both ways", """
            3 x thing(2, 1)
            arrow(0, 1) = 1
            arrow(1, 2) = 1
            apart(0, 2) ! 0
            apart(2, 0) ! 0
            see(1, 0) = 1
            apart(0, 2) ! 1
            apart(2, 0) ! 1
            act(1, 0) = 1
            apart(0, 2) ! 1
            apart(2, 0) ! 1
            """);
        E.edge(22, "no other thing between is SEEN or DONE", "one from which both ARROWS lead", """
            3 x thing(2, 1)
            arrow(1, 0) = 1
            arrow(1, 2) = 1
            apart(0, 2) ! 0
            see(1, 1) = 1
            apart(0, 2) ! 1
            act(1, 1) = 1
            apart(0, 2) ! 1
            act(1, -1) = 1
            apart(0, 2) ! 0
            """);
        E.edge(22, "A ROAD goes from the one to the other", "by way of the first thing or the last", """
            12 x thing(2, 1)
            arrow(1, 0) = 1
            arrow(0, 2) = 1
            arrow(11, 3) = 1
            arrow(11, 4) = 1
            apart(1, 2) ! 0
            apart(2, 1) ! 0
            apart(3, 4) ! 0
            see({0 11}, 0) = 1
            apart(1, 2) ! 1
            apart(3, 4) ! 1
            """);
        E.edge(22, "no ROAD between them is OPEN", "two ROADS, one shut, both shut", """
            4 x thing(2, 1)
            arrow(0, 1) = 1
            arrow(1, 3) = 1
            arrow(0, 2) = 1
            arrow(2, 3) = 2
            see(1, 0) = 1
            apart(0, 3) ! 0
            see(2, 0) = 1
            apart(0, 3) ! 1
            """);
        E.edge(22, "A ROAD goes from the one to the other", "by way of all twelve", """
            12 x thing(2, 1)
            arrow(5, 4) = 1
            arrow(4, 3) = 1
            arrow(3, 2) = 1
            arrow(2, 1) = 1
            arrow(1, 0) = 1
            arrow(5, 6) = 1
            arrow(6, 7) = 1
            arrow(7, 8) = 1
            arrow(8, 9) = 1
            arrow(9, 10) = 1
            arrow(10, 11) = 1
            apart(0, 11) ! 0
            apart(11, 0) ! 0
            see(5, 0) = 1
            apart(0, 11) ! 1
            see(5, -1) = 1
            see(10, 0) = 1
            apart(0, 11) ! 1
            apart(0, 10) ! 0
            """);
        E.edge(22, "each thing at most once", "a ROAD that would have to come back by its own end", """
            4 x thing(2, 1)
            arrow(0, 1) = 1
            arrow(2, 1) = 2
            arrow(2, 0) = 1
            arrow(2, 3) = 1
            apart(0, 3) ! 0
            see(2, 0) = 1
            apart(0, 3) ! 1
            see(1, 0) = 1
            apart(0, 3) ! 1
            """);
    }

    private static void apartMeetings() {
        E.edge(22, "each thing between at which both ARROWS of it end is SEEN", "it is not, it is", """
            3 x thing(2, 1)
            arrow(0, 2) = 1
            arrow(1, 2) = 2
            apart(0, 1) ! 1
            see(2, 0) = 1
            apart(0, 1) ! 0
            apart(1, 0) ! 0
            see(2, -1) = 1
            apart(0, 1) ! 1
            """);
        E.edge(22, "or one to which a row of ARROWS leads from it is", "ten things below", """
            12 x thing(2, 1)
            arrow(0, 2) = 1
            arrow(1, 2) = 2
            arrow(2, 3) = 1
            arrow(3, 4) = 1
            arrow(4, 5) = 1
            arrow(5, 6) = 1
            arrow(6, 7) = 1
            arrow(7, 8) = 1
            arrow(8, 9) = 1
            arrow(9, 10) = 1
            arrow(10, 11) = 1
            apart(0, 1) ! 1
            see(11, 0) = 1
            apart(0, 1) ! 0
            see(5, 0) = 1
            apart(0, 1) ! 0
            see(11, -1) = 1
            apart(0, 1) ! 0
            """);
        E.edge(22, "or one to which a row of ARROWS leads from it is", "one above it, or beside it, does not count", """
            5 x thing(2, 1)
            arrow(0, 2) = 1
            arrow(1, 2) = 2
            arrow(3, 2) = 3
            arrow(3, 4) = 1
            see({3 4}, 0) = 1
            apart(0, 1) ! 1
            see(2, 0) = 1
            apart(0, 1) ! 0
            """);
        E.edge(22, "and no other thing between is SEEN or DONE", "a meeting that is SEEN opens, and shuts the row by it", """
            4 x thing(2, 1)
            arrow(0, 2) = 1
            arrow(1, 2) = 2
            arrow(2, 3) = 1
            see(2, 0) = 1
            apart(0, 1) ! 0
            apart(0, 3) ! 1
            apart(1, 3) ! 1
            """);
        E.edge(22, "each thing between at which both ARROWS of it end is SEEN", "two meetings, one SEEN, both SEEN", """
            5 x thing(2, 1)
            arrow(0, 3) = 1
            arrow(1, 3) = 2
            arrow(1, 4) = 1
            arrow(2, 4) = 2
            see(3, 0) = 1
            apart(0, 2) ! 1
            apart(0, 1) ! 0
            see(4, 0) = 1
            apart(0, 2) ! 0
            see(1, 0) = 1
            apart(0, 2) ! 1
            """);
        E.edge(22, "each thing between at which both ARROWS of it end is SEEN", "one SEEN thing below two meetings", """
            6 x thing(2, 1)
            arrow(0, 3) = 1
            arrow(1, 3) = 2
            arrow(1, 4) = 1
            arrow(2, 4) = 2
            arrow(3, 5) = 1
            arrow(4, 5) = 2
            apart(0, 2) ! 1
            see(5, 0) = 1
            apart(0, 2) ! 0
            see(1, 0) = 1
            apart(0, 2) ! 0
            """);
    }

    private static void apartDone() {
        E.edge(22, "ARROWS to things that are DONE are not there", "at the meeting, SEEN below or not", """
            4 x thing(2, 1)
            arrow(0, 2) = 1
            arrow(1, 2) = 2
            arrow(2, 3) = 1
            see(3, 0) = 1
            apart(0, 1) ! 0
            act(2, 0) = 1
            apart(0, 1) ! 1
            """);
        E.edge(22, "ARROWS to things that are DONE are not there", "between the meeting and what is SEEN", """
            5 x thing(2, 1)
            arrow(0, 2) = 1
            arrow(1, 2) = 2
            arrow(2, 3) = 1
            arrow(3, 4) = 1
            see(4, 0) = 1
            apart(0, 1) ! 0
            act(3, 0) = 1
            apart(0, 1) ! 1
            act(4, 0) = 1
            apart(0, 1) ! 1
            see(3, 0) = 1
            apart(0, 1) ! 0
            """);
        E.edge(22, "ARROWS to things that are DONE are not there", "at an end", """
            2 x thing(2, 1)
            arrow(0, 1) = 1
            act(1, 0) = 1
            apart(0, 1) ! 1
            apart(1, 0) ! 1
            act(0, 0) = 1
            apart(0, 1) ! 1
            act(1, -1) = 1
            apart(0, 1) ! 0
            apart(1, 0) ! 0
            """);
        E.edge(22, "ARROWS to things that are DONE are not there", "a DONE thing below opens no meeting", """
            4 x thing(2, 1)
            arrow(0, 2) = 1
            arrow(1, 2) = 2
            arrow(2, 3) = 1
            act(3, 0) = 1
            apart(0, 1) ! 1
            see(3, 0) = 1
            apart(0, 1) ! 0
            """);
    }

    private static void apartEnds() {
        E.edge(22, "Things that are themselves SEEN or DONE are asked like others at the ends", "SEEN", """
            3 x thing(2, 1)
            arrow(0, 1) = 1
            arrow(1, 2) = 1
            see({0 2}, 0) = 1
            apart(0, 2) ! 0
            apart(2, 0) ! 0
            apart(0, 1) ! 0
            """);
        E.edge(22, "Things that are themselves SEEN or DONE are asked like others at the ends", "DONE, with ARROWS from it", """
            4 x thing(2, 1)
            arrow(0, 1) = 1
            arrow(1, 2) = 1
            arrow(3, 0) = 1
            act(0, 0) = 1
            apart(0, 2) ! 0
            apart(2, 0) ! 0
            apart(0, 3) ! 1
            apart(3, 1) ! 1
            """);
        E.edge(22, "Things that are themselves SEEN or DONE are asked like others at the ends", "a SEEN end below a meeting", """
            4 x thing(2, 1)
            arrow(0, 2) = 1
            arrow(1, 2) = 2
            arrow(2, 3) = 1
            see(3, 0) = 1
            apart(0, 3) ! 0
            apart(3, 1) ! 0
            apart(0, 1) ! 0
            """);
    }
}
