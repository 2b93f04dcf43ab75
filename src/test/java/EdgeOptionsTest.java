/** Promises 23 to 28 and the terms of options, worths and gains at their edges. */
public final class EdgeOptionsTest {
    private static final Edges E = new Edges();
    private static final String PAIR = Edges.PAIR, NOUGHT = Edges.NOUGHT, ROUGH = Edges.ROUGH;

    public static void main(String[] args) {
        options(); worthNumbers(); worthKept();
        expected(); best();
        gain(); gainOfKnown(); next();
        E.end(23, 28);
    }

    private static void options() {
        E.edge(23, "OPTIONS 0 .. n - 1 (n 0 .. 6; 0 at first)", "too small and too large", """
            options({LOW -6 -1 7 8 HIGH}) ! -1
            options(6) = 0
            options({LOW -6 -1 7 8 HIGH}) ! -1
            count(2) = 6
            """);
        E.edge(23, "OPTIONS 0 .. n - 1 (n 0 .. 6; 0 at first)", "none, one, all, with no things and with some", """
            options(0) = 0
            options(1) = 0
            options(6) = 1
            options(0) = 6
            thing(2, 1) = 0
            options(6) = 0
            options(6) = 6
            options(5) = 6
            count(2) = 5
            count(3) = 3
            """);
        E.edge(23, "OPTIONS 0 .. n - 1", "the last, and one behind it", PAIR + """
            expected(0) ! -1
            options(1) = 0
            expected(0) = 1
            expected(1) ! -1
            options(6) = 1
            expected(5) = 1
            expected(6) ! -1
            options(5) = 6
            expected(5) ! -1
            options(0) = 5
            expected(0) ! -1
            """);
        E.edge(23, "those that come have WORTH 0", "at first", PAIR + """
            options(6) = 0
            worth({0 5}, 0, {0 1}, 1) = 0
            worth({0 5}, 1, {0 1 2}, 1) = 0
            """);
        E.edge(23, "those that come have WORTH 0", "those that had been there", PAIR + """
            options(6) = 0
            worth({0 1 4 5}, 1, 2, 500) = 0
            worth({0 1 4 5}, 0, 0, -500) = 0
            options(1) = 6
            options(6) = 1
            worth({1 4 5}, 1, 2, 1) = 0
            worth({1 4 5}, 0, 0, 1) = 0
            worth(0, 1, 2, 1) = 500
            worth(0, 0, 0, 1) = -500
            """);
        E.edge(23, "those that come have WORTH 0", "all went", PAIR + """
            options(2) = 0
            worth({0 1}, 1, 2, 7) = 0
            options(0) = 2
            options(2) = 0
            worth({0 1}, 1, 2, 7) = 0
            """);
        E.edge(23, "There are n options now", "those that stay keep their WORTH", PAIR + """
            options(2) = 0
            worth(0, 0, 0, 3) = 0
            worth(1, 1, 2, 4) = 0
            options(2) = 2
            options(3) = 2
            options(2) = 3
            worth(0, 0, 0, 3) = 3
            worth(1, 1, 2, 4) = 4
            """);
    }

    private static void worthNumbers() {
        E.edge(24, "no such .. option", "none, below, behind and far off", PAIR + """
            worth({-1 0 1}, 0, 0, 1) ! 10000
            options(2) = 0
            worth({LOW -1 2 5 6 HIGH}, 0, 0, 1) ! 10000
            """);
        E.edge(24, "no such thing", "below, behind and far off", PAIR + """
            options(2) = 0
            worth(0, {LOW -1 2 11 12 1073741824 HIGH}, 0, 1) ! 10000
            worth(1, {LOW -12 -1 2 12 HIGH}, 0, 1) ! 10000
            """);
        E.edge(24, "no such .. value", "below, behind, and those of the thing beside it", PAIR + """
            options(2) = 0
            worth(0, 0, {LOW -1 2 3 4 HIGH}, 1) ! 10000
            worth(1, 1, {LOW -4 -1 3 4 HIGH}, 1) ! 10000
            """);
        E.edge(24, "-500 .. 500", "too small and too large", PAIR + """
            options(2) = 0
            worth(1, 1, 2, {LOW -10000 -501 501 10000 HIGH}) ! 10000
            worth(0, 0, 0, {LOW -501 501 HIGH}) ! 10000
            """);
        E.edge(24, "-500 .. 500, 0 at first", "the least and the greatest", PAIR + """
            options(2) = 0
            worth(1, 1, 2, -500) = 0
            worth(1, 1, 2, 500) = -500
            worth(1, 1, 2, 501) ! 10000
            worth(1, 1, 2, -501) ! 10000
            worth(1, 1, 2, -500) = 500
            """);
        E.edge(24, "10000: BAD", "-1 is a WORTH like others", PAIR + """
            options(1) = 0
            worth(0, 0, 0, -1) = 0
            worth(0, 0, 0, 501) ! 10000
            worth(0, 0, 0, -2) = -1
            worth(0, 0, 0, 0) = -2
            """);
        E.edge(24, "no such thing, value, row, option", "the last of twelve things, the last of six options", """
            11 x thing(2, 1)
            thing(4, 1) = 11
            options(6) = 0
            worth(5, 11, 3, 500) = 0
            worth(6, 11, 3, 1) ! 10000
            worth(5, 12, 0, 1) ! 10000
            worth(5, 11, 4, 1) ! 10000
            worth(5, 11, 3, -500) = 500
            """);
    }

    private static void worthKept() {
        E.edge(24, "The WORTH of an option for a value of x becomes u", "no other one does", PAIR + """
            options(3) = 0
            worth(1, 0, 1, 9) = 0
            worth({0 2}, 0, {0 1}, 0) = 0
            worth(1, 0, 0, 0) = 0
            worth(1, 1, {0 1 2}, 0) = 0
            worth(1, 0, 1, 0) = 9
            """);
        E.edge(24, "The WORTH of an option for a value of x becomes u", "the same again counts as an act", PAIR + """
            options(1) = 0
            worth(0, 0, 0, 0) = 0
            count(3) = 11
            worth(0, 0, 0, 4) = 0
            worth(0, 0, 0, 4) = 4
            count(3) = 13
            undo() = 12
            worth(0, 0, 0, 4) = 4
            """);
    }

    private static void expected() {
        E.edge(25, "BAD", "options below, behind and far off", PAIR + """
            expected({-1 0 1}) ! -1
            options(3) = 0
            expected({LOW -1 3 5 6 HIGH}) ! -1
            expected({0 1 2}) = 1 : 0/1
            """);
        E.edge(25, "BAD, ROUGH, NOUGHT", "of several the one named first", PAIR + "options(2) = 0\n" + NOUGHT + """
            expected({-1 2}) ! -1
            expected({0 1}) ! -5
            """ + ROUGH + """
            expected({-1 2}) ! -1
            expected({0 1}) ! -4
            """);
        E.edge(25, "ROUGH (-4): the web is not SOUND, or has no things", "no things", """
            expected(0) ! -1
            options(1) = 0
            expected(0) ! -4
            expected(1) ! -1
            """);
        E.edge(25, "WORTH .. of a WHOLE: the sum over all things at their values", "the least and the greatest of one thing", PAIR + """
            options(2) = 0
            worth(0, 0, {0 1}, 500) = 0
            worth(1, 0, {0 1}, -500) = 0
            expected(0) = 1 : 500/1
            expected(1) = 1 : -500/1
            worth(0, 1, {0 1 2}, -500) = 0
            expected(0) = 1 : 0/1
            """);
        String heavy = """
            9 x thing(2, 10)
            3 x thing(2, 1)
            force({0 1 2 3 4 5 6 7 8 9 10 11}, {0 1}, 3) = 1
            options(2) = 0
            """;
        E.edge(25, "the sum, over all WHOLES, of its worth times their LIKELIHOOD", "the least and the greatest of twelve, every FORCE 3", heavy + """
            worth(0, {0 1 2 3 4 5 6 7 8 9 10 11}, {0 1}, -500) = 0
            worth(1, {0 1 2 3 4 5 6 7 8 9 10 11}, {0 1}, 500) = 0
            expected(0) = 1 : -6000/1
            expected(1) = 1 : 6000/1
            best() = 1 : 6000/1
            gain(0) = 1 : 0/1
            """);
        E.edge(25, "the sum, over all WHOLES, of its worth times their LIKELIHOOD", "values of CHANCE 0 do not count", PAIR + """
            options(1) = 0
            worth(0, 1, 0, 500) = 0
            worth(0, 1, 1, -500) = 0
            worth(0, 1, 2, 1) = 0
            see(1, 2) = 1
            expected(0) = 1 : 1/1
            act(1, 0) = 1
            expected(0) = 1 : 500/1
            """);
    }

    private static void best() {
        E.edge(26, "BAD: there are no options", "none, none any more", PAIR + """
            best() ! -1
            options(1) = 0
            best() = 0 : 0/1
            options(0) = 1
            best() ! -1
            up() = 0
            down() = 1
            """);
        E.edge(26, "BAD: there are no options; ROUGH, NOUGHT", "of several the one named first", PAIR + NOUGHT + """
            best() ! -1
            options(1) = 0
            best() ! -5
            """ + ROUGH + """
            best() ! -4
            options(0) = 1
            best() ! -1
            """);
        E.edge(26, "ROUGH (-4): the web is not SOUND, or has no things", "no things", """
            best() ! -1
            options(6) = 0
            best() ! -4
            """);
        E.edge(26, "of several the least", "all alike, the last two alike, the first and the last", PAIR + """
            options(6) = 0
            best() = 0 : 0/1
            worth({4 5}, 0, 1, 4) = 0
            best() = 4 : 3/1
            worth(0, 0, 0, 12) = 0
            best() = 0 : 3/1
            worth(5, 1, 0, 24) = 0
            best() = 5 : 8/1
            """);
        E.edge(26, "BEST: the one with the greatest", "all below 0", PAIR + """
            options(3) = 0
            worth(0, 0, {0 1}, -3) = 0
            worth(1, 0, {0 1}, -2) = 0
            worth(2, 0, {0 1}, -2) = 0
            best() = 1 : -2/1
            options(1) = 3
            best() = 0 : -3/1
            """);
        E.edge(26, "BEST: the one with the greatest", "greater by the least there can be", """
            9 x thing(2, 10)
            row 0 0 : 9 1
            row 1 0 : 9 1
            row 2 0 : 9 1
            row 3 0 : 9 1
            row 4 0 : 9 1
            row 5 0 : 9 1
            row 6 0 : 9 1
            row 7 0 : 9 1
            row 8 0 : 9 1
            options(2) = 0
            worth({0 1}, 0, {0 1}, 500) = 0
            worth({0 1}, 8, 0, 500) = 0
            best() = 0 : 950/1
            worth(1, 8, 1, 1) = 0
            best() = 1 : 9501/10
            """);
    }

    private static void gain() {
        E.edge(27, "BAD (no options, too)", "things below, behind and far off", PAIR + """
            gain({0 1 2}) ! -1
            options(1) = 0
            gain({LOW -1 2 11 12 HIGH}) ! -1
            gain({0 1}) = 1 : 0/1
            options(0) = 1
            gain({0 1}) ! -1
            """);
        E.edge(27, "BAD (no options, too), ROUGH, NOUGHT", "of several the one named first", PAIR + NOUGHT + """
            gain(0) ! -1
            options(2) = 0
            gain(2) ! -1
            gain({0 1}) ! -5
            """ + ROUGH + """
            gain({0 1}) ! -4
            gain(2) ! -1
            options(0) = 2
            gain(0) ! -1
            """);
        E.edge(27, "BAD (no options, too)", "no things", """
            options(1) = 0
            gain({-1 0}) ! -1
            """);
        E.edge(27, "where that CHANCE is above 0", "values of CHANCE 0, all options below 0", PAIR + """
            options(2) = 0
            worth({0 1}, {0 1}, {0 1}, -500) = 0
            worth(0, 1, 2, -500) = 0
            worth(1, 1, 2, -400) = 0
            force(1, 2, 0) = 1
            gain({0 1}) = 1 : 0/1
            """);
        E.edge(27, "where that CHANCE is above 0", "one value has all of it", PAIR + """
            row 0 0 : 0 4
            options(2) = 0
            worth(0, 0, 0, 500) = 0
            worth(1, 0, 1, 100) = 0
            gain(0) = 1 : 0/1
            best() = 1 : 100/1
            """);
        E.edge(27, "less the greatest EXPECTED worth now", "one option gains nothing", PAIR + """
            options(1) = 0
            worth(0, 0, 0, -500) = 0
            worth(0, 1, 2, 500) = 0
            gain({0 1}) = 1 : 0/1
            """);
        E.edge(27, "less the greatest EXPECTED worth now", "below 0 before and behind it", PAIR + """
            options(2) = 0
            worth(0, 0, 0, -4) = 0
            worth(1, 0, 1, -4) = 0
            best() = 0 : -1/1
            gain(0) = 1 : 1/1
            gain(1) = 1 : 0/1
            """);
        E.edge(27, "The GAIN of seeing x", "the greatest there can be, every FORCE 3", """
            9 x thing(2, 10)
            3 x thing(2, 1)
            arrow(0, {1 2 3 4 5 6 7 8 9 10 11}) = 1
            row 0 0 : 5 5
            weight({1 2 3 4 5 6 7 8}, 1, 0, 0) = 10
            weight({1 2 3 4 5 6 7 8}, 1, 1, 10) = 0
            weight({9 10 11}, 1, 0, 0) = 1
            weight({9 10 11}, 1, 1, 1) = 0
            force({0 1 2 3 4 5 6 7 8 9 10 11}, {0 1}, 3) = 1
            options(2) = 0
            worth(0, {0 1 2 3 4 5 6 7 8 9 10 11}, 0, 500) = 0
            worth(0, {0 1 2 3 4 5 6 7 8 9 10 11}, 1, -500) = 0
            worth(1, {0 1 2 3 4 5 6 7 8 9 10 11}, 0, -500) = 0
            worth(1, {0 1 2 3 4 5 6 7 8 9 10 11}, 1, 500) = 0
            best() = 0 : 0/1
            gain({0 11}) = 1 : 6000/1
            next() = 0 : 6000/1
            """);
    }

    private static void gainOfKnown() {
        String split = PAIR + """
            options(2) = 0
            worth(0, 0, 0, 100) = 0
            worth(1, 0, 1, 40) = 0
            """;
        E.edge(27, "0 if it is SEEN or DONE", "SEEN", split + """
            gain(0) = 1 : 25/1
            see(0, 1) = 1
            gain(0) = 1 : 0/1
            gain(1) = 1 : 0/1
            see(0, -1) = 1
            gain(0) = 1 : 25/1
            """);
        E.edge(27, "0 if it is SEEN or DONE", "DONE", split + """
            act(0, 0) = 1
            gain(0) = 1 : 0/1
            act(0, -1) = 1
            act(1, 0) = 1
            gain(1) = 1 : 0/1
            gain(0) = 1 : 25/1
            """);
        E.edge(27, "0 if it is SEEN or DONE", "still ROUGH or NOUGHT", split + NOUGHT + """
            gain({0 1}) ! -5
            """ + ROUGH + """
            gain({0 1}) ! -4
            act(1, 2) = 1
            gain(1) = 1 : 0/1
            """);
        E.edge(27, "if x were SEEN as v also", "nothing stays SEEN", split + """
            gain(0) = 1 : 25/1
            gain(1) = 1 : 10/1
            about({0 1}, 5) = -1
            count(3) = 12
            chance() = 1 : 1/1
            """);
    }

    private static void next() {
        E.edge(28, "-6: all are SEEN or DONE", "all but one, all", PAIR + """
            options(1) = 0
            see(0, 1) = 1
            next() = 1 : 0/1
            ask(1, 0) = 1 : 1/6
            act(1, 0) = 1
            next() ! -6
            up() = 1
            down() = 6
            act(0, 0) = 1
            next() ! -6
            see({0 1}, 0) = 1
            next() ! -6
            see(1, -1) = 1
            next() = 1 : 0/1
            """);
        E.edge(28, "BAD: no options; ROUGH, NOUGHT", "of several the one named first", PAIR + NOUGHT + """
            next() ! -1
            options(1) = 0
            next() ! -5
            """ + ROUGH + """
            next() ! -4
            options(0) = 1
            next() ! -1
            """);
        E.edge(28, "ROUGH (-4): the web is not SOUND, or has no things", "no things", """
            next() ! -1
            options(1) = 0
            next() ! -4
            """);
        E.edge(28, "of several the least", "all gain nothing; two gain alike", """
            4 x thing(2, 2)
            row 1 0 : 1 1
            row 2 0 : 1 1
            options(2) = 0
            next() = 0 : 0/1
            worth(0, {1 2}, 0, 10) = 0
            worth(1, {1 2}, 1, 10) = 0
            gain(1) = 1 : 5/1
            gain(2) = 1 : 5/1
            next() = 1 : 5/1
            see(1, 0) = 1
            next() = 0 : 0/1
            """);
        E.edge(28, "The thing that is neither SEEN nor DONE", "a least that is known is passed over", PAIR + """
            options(2) = 0
            see(0, 1) = 1
            next() = 1 : 0/1
            act(0, 1) = 1
            next() = 1 : 0/1
            """);
        E.edge(28, "with the greatest GAIN", "the last of twelve", """
            11 x thing(2, 2)
            thing(4, 4) = 11
            row 11 0 : 1 1 1 1
            options(6) = 0
            worth(5, 11, 3, 500) = 0
            worth(4, 11, 3, -500) = 0
            gain(11) = 1 : 0/1
            worth(5, 11, 2, -500) = 0
            gain(11) = 1 : 125/1
            next() = 11 : 125/1
            """);
    }
}
