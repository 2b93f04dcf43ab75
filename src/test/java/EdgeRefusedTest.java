/** "What is answered so changes nothing": each call that refuses, or only reads, on a web in full use. */
public final class EdgeRefusedTest {
    private static final Edges E = new Edges();
    private static final String WORDS = "What is answered so changes nothing";

    /** Five things with all that they can have: a WHOLE is shown, 72/1019 is told, 29 acts can be undone. */
    private static final String RICH = """
        4 x thing(2, 10)
        thing(4, 10) = 4
        arrow(3, 4) = 1
        arrow(0, 4) = 2
        arrow(1, 4) = 3
        arrow(4, 2) = 1
        row 0 0 : 4 6
        row 1 0 : 9 1
        row 4 0 : 1 2 3 4
        row 4 3 : 4 3 2 1
        row 4 7 : 0 0 5 5
        row 2 3 : 0 10
        force(0, 1, 3) = 1
        force(4, 3, 2) = 1
        options(6) = 0
        worth(0, 0, 0, 500) = 0
        worth(5, 4, 3, -500) = 0
        act(3, 0) = 1
        see(2, 0) = 1
        likeliest(1) = 1
        ask(4, 2) = 1 : 72/1019
        """;

    public static void main(String[] args) {
        web(); known(); questions(); options(); back();
        E.end(2, 30);
    }

    private static void refused(int promise, String what, String script) {
        E.edge(promise, WORDS, what, RICH + script);
    }

    private static void web() {
        refused(2, "thing: BAD", """
            thing({1 5}, 10) ! -1
            thing(2, {0 101}) ! -1
            """);
        refused(2, "thing: MANY", """
            thing(4, 100) = 5
            thing(2, 100) = 6
            see(6, 0) = 1
            force(5, 3, 0) = 1
            likeliest(0) = 1
            thing({2 3 4}, {2 100}) ! -3
            """);
        refused(3, "arrow: BAD, RING", """
            arrow(0, 4) ! -1
            arrow(4, 4) ! -1
            arrow({-1 5}, 4) ! -1
            arrow(0, {-1 5}) ! -1
            arrow(2, {0 1 3 4}) ! -2
            arrow(4, {0 1 3}) ! -2
            """);
        refused(3, "arrow: MANY", """
            cut(4, 2) = 0
            arrow(2, 4) ! -3
            """);
        refused(4, "cut", """
            cut(2, 4) ! -1
            cut(4, {0 1 3 4}) ! -1
            cut({-1 5}, 4) ! -1
            cut(0, {-1 5}) ! -1
            """);
        refused(5, "weight", """
            weight(4, 8, 0, 1) ! -1
            weight(4, 7, {-1 4}, 1) ! -1
            weight(4, 7, 3, {-1 11}) ! -1
            weight({-1 5}, 0, 0, 1) ! -1
            """);
        refused(6, "told", """
            told(4, {-1 8}, 0) ! -1
            told(4, 7, {-1 4}) ! -1
            told(4, 7, 3) ! 5
            """);
        refused(7, "about", """
            about(4, {-1 7}) ! -1
            about({-1 5}, 0) ! -1
            about(4, 3) ! 8
            about(4, 4) ! 1
            about(2, 5) ! 0
            """);
        refused(8, "parent", """
            parent(4, {-1 3}) ! -2
            parent({-1 5}, 0) ! -2
            parent(4, 2) ! 1
            """);
        refused(9, "sound", """
            sound() ! 1
            weight(0, 0, 0, 5) = 4
            sound() ! 0
            """);
    }

    private static void known() {
        refused(10, "see", """
            see({-1 5}, 0) ! -1
            see({-1 5}, -1) ! -1
            see(2, {-2 2}) ! -1
            see(3, {-2 2}) ! -1
            """);
        refused(11, "act", """
            act({-1 5}, 0) ! -1
            act({-1 5}, -1) ! -1
            act(2, {-2 2}) ! -1
            act(3, {-2 2}) ! -1
            """);
        refused(12, "force", """
            force({-1 5}, 0, 0) ! -1
            force(4, {-1 4}, 0) ! -1
            force(4, 3, {-1 4}) ! -1
            """);
    }

    /** Every question of a web that is not SOUND, then of one whose SUM is 0. */
    private static void questions() {
        String rough = "weight(0, 0, 0, 5) = 4\n";
        String nought = "force(3, 0, 0) = 1\n";
        refused(13, "chance: ROUGH", rough + """
            chance() ! -4
            """);
        refused(14, "ask: BAD, ROUGH", rough + """
            ask(4, {-1 4}) ! -1
            ask(4, 0) ! -4
            """);
        refused(14, "ask: NOUGHT", nought + """
            ask(4, 0) ! -5
            """);
        refused(15, "both: BAD, ROUGH", rough + """
            both(4, 0, 5, 0) ! -1
            both(4, 0, 0, 1) ! -4
            """);
        refused(15, "both: NOUGHT", nought + """
            both(4, 0, 0, 1) ! -5
            """);
        refused(16, "up", """
            up() ! 72
            """);
        refused(17, "down", """
            down() ! 1019
            """);
        refused(18, "most: BAD, ROUGH", """
            most(4) ! 0
            """ + rough + """
            most({-1 5}) ! -1
            most(4) ! -4
            """);
        refused(18, "most: NOUGHT", nought + """
            most(4) ! -5
            """);
        refused(19, "likeliest: BAD, ROUGH", rough + """
            likeliest({-1 10}) ! -1
            likeliest(0) ! -4
            """);
        refused(19, "likeliest: not so many", nought + """
            likeliest({0 9}) ! 0
            """);
        refused(20, "at", """
            at({-1 5 12}) ! -2
            at(3) ! 0
            """);
        refused(21, "wholes: none, ROUGH", nought + """
            wholes() ! 0
            """ + rough + """
            wholes() ! -4
            """);
        refused(22, "apart", """
            apart({-1 5}, 0) ! -1
            apart(0, {-1 5}) ! -1
            apart(4, 4) ! 0
            apart(0, 3) ! 0
            see(2, -1) = 1
            apart(0, 3) ! 1
            """);
    }

    private static void options() {
        String rough = "weight(0, 0, 0, 5) = 4\n";
        String nought = "force(3, 0, 0) = 1\n";
        refused(23, "options", """
            options({-1 7}) ! -1
            """);
        refused(24, "worth", """
            worth({-1 6}, 0, 0, 1) ! 10000
            worth(0, {-1 5}, 0, 1) ! 10000
            worth(5, 4, {-1 4}, 1) ! 10000
            worth(5, 4, 3, {-501 501}) ! 10000
            """);
        refused(25, "expected: BAD, ROUGH", rough + """
            expected({-1 6}) ! -1
            expected(5) ! -4
            """);
        refused(25, "expected: NOUGHT", nought + """
            expected(5) ! -5
            """);
        refused(26, "best: ROUGH, NOUGHT", nought + """
            best() ! -5
            """ + rough + """
            best() ! -4
            """);
        refused(26, "best: BAD", """
            options(0) = 6
            best() ! -1
            """);
        refused(27, "gain: BAD, ROUGH", rough + """
            gain({-1 5}) ! -1
            gain({0 2 3}) ! -4
            """);
        refused(27, "gain: NOUGHT", nought + """
            gain({0 2 3}) ! -5
            """);
        refused(28, "next: ROUGH, NOUGHT", nought + """
            next() ! -5
            """ + rough + """
            next() ! -4
            """);
        refused(28, "next: BAD", """
            options(0) = 6
            next() ! -1
            """);
        refused(28, "next: all are SEEN or DONE", """
            see({0 1 4}, 0) = 1
            next() ! -6
            """);
    }

    private static void back() {
        refused(29, "undo: none is left", """
            thing(2, 1) = 5
            undo() ! -1
            likeliest(0) = 1
            undo() ! -1
            """);
        refused(30, "count", """
            count({-1 4}) ! -1
            count(0) ! 5
            count(1) ! 4
            count(2) ! 6
            count(3) ! 29
            """);
    }
}
