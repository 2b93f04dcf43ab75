/** Promises 10 to 12 and the terms of what is SEEN, DONE and weighed at their edges. */
public final class EdgeKnownTest {
    private static final Edges E = new Edges();
    private static final String PAIR = Edges.PAIR;

    public static void main(String[] args) {
        see(); act(); seenAndDone();
        force(); likelihood();
        E.end(10, 12);
    }

    private static void see() {
        E.edge(10, "no such thing", "numbers below, behind and far off", PAIR + """
            see({LOW -1 2 11 12 HIGH}, 0) ! -1
            see({LOW -1 2 11 12 HIGH}, -1) ! -1
            """);
        E.edge(10, "no such .. value", "below -1 and behind the last", PAIR + """
            see(0, {LOW -3 -2 2 3 4 HIGH}) ! -1
            see(1, {LOW -3 -2 3 4 HIGH}) ! -1
            see(0, 1) = 1
            see(0, {-2 2}) ! -1
            about(0, 5) = 1
            """);
        E.edge(10, "Thing x is SEEN as a value", "the first and the last, of 2, 3 and 4", """
            thing(2, 1) = 0
            thing(3, 1) = 1
            thing(4, 1) = 2
            see({0 1 2}, 0) = 1
            about({0 1 2}, 5) = 0
            see(0, 1) = 1
            see(1, 2) = 1
            see(2, 3) = 1
            see(0, 2) ! -1
            see(1, 3) ! -1
            see(2, 4) ! -1
            about(0, 5) = 1
            about(1, 5) = 2
            about(2, 5) = 3
            """);
        E.edge(10, "or not any more (-1)", "one that is SEEN, and one that is not", PAIR + """
            see(1, 2) = 1
            see(1, -1) = 1
            about(1, 5) = -1
            see(1, -1) = 1
            about(1, 5) = -1
            count(3) = 12
            ask(1, 2) = 1 : 3/8
            """);
        E.edge(10, "Thing x is SEEN as a value", "as the same again, and as another", PAIR + """
            see(0, 1) = 1
            see(0, 1) = 1
            see(0, 0) = 1
            about(0, 5) = 0
            count(3) = 12
            undo() = 11
            about(0, 5) = 1
            undo() = 10
            about(0, 5) = 1
            undo() = 9
            about(0, 5) = -1
            """);
        E.edge(10, "DONE no more", "a value, or -1", PAIR + """
            act(1, 2) = 1
            see(1, 1) = 1
            about(1, 6) = -1
            about(1, 5) = 1
            act(1, 2) = 1
            see(1, -1) = 1
            about(1, 6) = -1
            about(1, 5) = -1
            """);
        E.edge(10, "DONE no more", "a refused one leaves it DONE", PAIR + """
            act(1, 2) = 1
            see(1, {-2 3}) ! -1
            about(1, 6) = 2
            """);
        E.edge(10, "Thing x is SEEN as a value", "no other thing is", PAIR + """
            act(0, 1) = 1
            see(1, 0) = 1
            about(0, 5) = -1
            about(0, 6) = 1
            """);
    }

    private static void act() {
        E.edge(11, "no such thing", "numbers below, behind and far off", PAIR + """
            act({LOW -1 2 11 12 HIGH}, 0) ! -1
            act({LOW -1 2 11 12 HIGH}, -1) ! -1
            """);
        E.edge(11, "no such .. value", "below -1 and behind the last", PAIR + """
            act(0, {LOW -3 -2 2 3 4 HIGH}) ! -1
            act(1, {LOW -3 -2 3 4 HIGH}) ! -1
            act(0, 1) = 1
            act(0, {-2 2}) ! -1
            about(0, 6) = 1
            """);
        E.edge(11, "Thing x is DONE as a value", "the first and the last, of 2, 3 and 4", """
            thing(2, 1) = 0
            thing(3, 1) = 1
            thing(4, 1) = 2
            act({0 1 2}, 0) = 1
            about({0 1 2}, 6) = 0
            act(0, 1) = 1
            act(1, 2) = 1
            act(2, 3) = 1
            act(0, 2) ! -1
            act(1, 3) ! -1
            act(2, 4) ! -1
            about(0, 6) = 1
            about(1, 6) = 2
            about(2, 6) = 3
            """);
        E.edge(11, "or not any more (-1)", "one that is DONE, and one that is not", PAIR + """
            act(1, 2) = 1
            act(1, -1) = 1
            about(1, 6) = -1
            act(1, -1) = 1
            about(1, 6) = -1
            count(3) = 12
            ask(1, 2) = 1 : 3/8
            """);
        E.edge(11, "SEEN no more", "a value, or -1", PAIR + """
            see(1, 2) = 1
            act(1, 1) = 1
            about(1, 5) = -1
            about(1, 6) = 1
            see(1, 2) = 1
            act(1, -1) = 1
            about(1, 5) = -1
            about(1, 6) = -1
            """);
        E.edge(11, "SEEN no more", "a refused one leaves it SEEN", PAIR + """
            see(1, 2) = 1
            act(1, {-2 3}) ! -1
            about(1, 5) = 2
            """);
        E.edge(11, "Thing x is DONE as a value", "no other thing is", PAIR + """
            see(0, 1) = 1
            act(1, 0) = 1
            about(0, 5) = 1
            about(0, 6) = -1
            """);
        E.edge(11, "Thing x is DONE as a value", "its ARROWS and its table stay", PAIR + """
            act(1, 0) = 1
            count(1) = 1
            about(1, 3) = 2
            told(1, 1, 2) = 3
            """);
    }

    private static void seenAndDone() {
        E.edge(11, "not both: the later one counts", "by turns", PAIR + """
            see(1, 2) = 1
            act(1, 0) = 1
            ask(1, 0) = 1 : 1/1
            see(1, 2) = 1
            ask(1, 2) = 1 : 1/1
            ask(0, 1) = 1 : 1/1
            act(1, 2) = 1
            ask(0, 1) = 1 : 3/4
            """);
        E.edge(11, "for one that is DONE the TOTAL if it has that value, else 0", "a value of WEIGHT 0", PAIR + """
            act(1, 2) = 1
            see(0, 0) = 1
            chance() = 1 : 1/4
            both(0, 0, 1, 2) = 1 : 1/1
            both(0, 0, 1, 1) = 1 : 0/1
            """);
        E.edge(11, "for one that is DONE the TOTAL if it has that value, else 0", "a table that is not SOUND does not matter", PAIR + """
            weight(0, 0, 0, 0) = 1
            weight(0, 0, 1, 0) = 3
            act(0, 0) = 1
            chance() = 1 : 1/1
            ask(1, 1) = 1 : 2/3
            """);
        E.edge(10, "0 if it is SEEN as another value", "a value of WEIGHT 0 leaves nothing", PAIR + """
            see(0, 0) = 1
            see(1, 2) = 1
            chance() = 1 : 0/1
            ask(0, 0) ! -5
            see(0, 1) = 1
            chance() = 1 : 3/8
            """);
    }

    private static void force() {
        E.edge(12, "no such thing", "numbers below, behind and far off", PAIR + """
            force({LOW -1 2 11 12 1073741824 HIGH}, 0, 2) ! -1
            """);
        E.edge(12, "no such .. value", "below, behind, and those of the thing beside it", PAIR + """
            force(0, {LOW -1 2 3 4 HIGH}, 2) ! -1
            force(1, {LOW -4 -1 3 4 HIGH}, 2) ! -1
            """);
        E.edge(12, "each value of it has a FORCE 0 .. 3", "too small and too large", PAIR + """
            force(0, 0, {LOW -1 4 5 HIGH}) ! -1
            force(1, 2, {LOW -1 4 5 HIGH}) ! -1
            """);
        E.edge(12, "each value of it has a FORCE 0 .. 3 (1 at first)", "the least, the greatest, the last value", PAIR + """
            force(1, 2, 3) = 1
            force(1, 2, 0) = 3
            force(1, 2, 3) = 0
            force(1, 2, 3) = 3
            force(1, 2, 1) = 3
            force(0, 0, 0) = 1
            force(0, 1, 3) = 1
            force(0, 0, 2) = 0
            """);
        E.edge(12, "The FORCE of a value of thing x becomes f: what it was", "one that stays counts as an act", PAIR + """
            force(0, 0, 1) = 1
            count(3) = 10
            undo() = 9
            force(0, 0, 1) = 1
            """);
        E.edge(12, "The FORCE of a value of thing x becomes f", "a value's FORCE, not a thing's", PAIR + """
            force(1, 1, 2) = 1
            force(1, {0 2}, 1) = 1
            force(0, {0 1}, 1) = 1
            force(1, 1, 1) = 2
            """);
        E.edge(12, "The FORCE of a value of thing x becomes f", "it stays when the thing is SEEN, DONE or gets a PARENT", PAIR + """
            force(1, 1, 2) = 1
            see(1, 1) = 1
            act(1, 1) = 1
            act(1, -1) = 1
            cut(0, 1) = 0
            arrow(0, 1) = 1
            thing(2, 1) = 2
            force(1, 1, 1) = 2
            """);
        E.edge(12, "no such thing, value", "the last value of the last of twelve things", """
            2 x thing(4, 1)
            9 x thing(2, 1)
            thing(2, 1) = 11
            force(11, 1, 3) = 1
            force(11, {2 3}, 1) ! -1
            force(12, 0, 1) ! -1
            force(11, 1, 0) = 3
            """);
    }

    private static void likelihood() {
        E.edge(12, "the product, over all things, of its FORCE at their value", "of a thing that is SEEN or DONE too", PAIR + """
            force(0, 1, 3) = 1
            see(0, 1) = 1
            chance() = 1 : 9/4
            act(0, 1) = 1
            chance() = 1 : 3/1
            force(0, 1, 0) = 3
            chance() = 1 : 0/1
            """);
        E.edge(12, "FORCES may make it greater than that", "every FORCE 3 on two things", PAIR + """
            force(0, {0 1}, 3) = 1
            force(1, {0 1 2}, 3) = 1
            chance() = 1 : 9/1
            ask(1, 2) = 1 : 3/8
            """);
        E.edge(12, "each value of it has a FORCE 0 .. 3", "FORCE 0 at all values of a thing leaves nothing", PAIR + """
            force(1, {0 1 2}, 0) = 1
            chance() = 1 : 0/1
            ask(0, 0) ! -5
            wholes() = 0
            force(1, 2, 1) = 0
            ask(0, 1) = 1 : 1/1
            """);
    }
}
