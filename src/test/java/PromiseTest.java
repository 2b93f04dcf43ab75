/** One method a promise of the document: ordinary inputs, the edges that it names, and wrong inputs. */
public final class PromiseTest {
    private static final int LOW = Integer.MIN_VALUE, HIGH = Integer.MAX_VALUE;

    private static int wrong = 0;
    private static int promise = 0;

    private static void due(String what, long got, long want) {
        if (got != want) {
            wrong++;
            System.out.println("promise " + promise + ": " + what + " answered " + got + ", due is " + want);
        }
    }

    private static void fraction(BeliefWeb w, String what, long up, long down) {
        due("up() of " + what, w.up(), up);
        due("down() of " + what, w.down(), down);
    }

    public static void main(String[] args) {
        newObject(); thing(); thingAndHistory(); arrow(); cut(); weight(); told(); about(); parent(); sound();
        see(); act(); force(); chance(); ask(); both(); upAndDown(); most(); likeliest(); likeliestTies();
        at(); wholes(); apart(); apartDone(); options(); worth(); expected(); best(); gain(); next();
        undo(); undoEachKind(); undoHundred(); count(); orderOfAnswers(); largest(); largestGain(); fullWeb(); wrongNumbers();
        System.out.println(wrong == 0 ? "all promises hold" : wrong + " answers are not as due");
        if (wrong != 0) System.exit(1);
    }

    /** Thing 0 (2 values) leads to thing 1 (3 values); totals 4 and 6; both chances and weights uneven. */
    private static BeliefWeb pair() {
        BeliefWeb w = new BeliefWeb();
        w.thing(2, 4);
        w.thing(3, 6);
        w.arrow(0, 1);
        row(w, 0, 0, 1, 3);
        row(w, 1, 0, 2, 4, 0);
        row(w, 1, 1, 1, 2, 3);
        return w;
    }

    private static void row(BeliefWeb w, int x, int row, int... weights) {
        for (int v = 0; v < weights.length; v++) w.weight(x, row, v, weights[v]);
    }

    /** Things of two values and a total of 1. */
    private static BeliefWeb plain(int things) {
        BeliefWeb w = new BeliefWeb();
        for (int i = 0; i < things; i++) w.thing(2, 1);
        return w;
    }

    private static BeliefWeb withThings(int many, int values, int total) {
        BeliefWeb w = new BeliefWeb();
        for (int i = 0; i < many; i++) w.thing(values, total);
        return w;
    }

    private static void newObject() {
        promise = 1;
        BeliefWeb w = new BeliefWeb();
        for (int what = 0; what < 4; what++) due("count(" + what + ")", w.count(what), 0);
        due("sound()", w.sound(), 0);
        due("undo()", w.undo(), -1);
        due("at(0)", w.at(0), -2);
        due("parent(0, 0)", w.parent(0, 0), -2);
        due("about(0, 0)", w.about(0, 0), -1);
        due("chance()", w.chance(), -4);
        fraction(w, "nothing", 0, 0);
    }

    private static void thing() {
        promise = 2;
        BeliefWeb w = new BeliefWeb();
        due("thing(1, 1)", w.thing(1, 1), -1);
        due("thing(5, 1)", w.thing(5, 1), -1);
        due("thing(2, 0)", w.thing(2, 0), -1);
        due("thing(2, 101)", w.thing(2, 101), -1);
        due("thing(-2, -1)", w.thing(-2, -1), -1);
        due("count(0)", w.count(0), 0);
        due("thing(2, 1)", w.thing(2, 1), 0);
        due("thing(4, 100)", w.thing(4, 100), 1);
        due("told(1, 0, 0)", w.told(1, 0, 0), 100);
        due("told(1, 0, 3)", w.told(1, 0, 3), 0);
        w = plain(11);
        due("the twelfth", w.thing(2, 1), 11);
        due("the thirteenth", w.thing(2, 1), -3);
        due("the thirteenth, bad", w.thing(1, 1), -1);
        w = withThings(8, 3, 1);
        due("19683 wholes", w.thing(3, 1), 8);
        due("39366 wholes", w.thing(2, 1), -3);
        w = withThings(6, 4, 1);
        due("16384 wholes", w.thing(4, 1), 6);
        due("32768 wholes", w.thing(2, 1), -3);
        w = withThings(4, 2, 100);
        due("all of 10^9", w.thing(2, 10), 4);
        due("all of 2 * 10^9", w.thing(2, 2), -3);
        due("all of 10^9 still", w.thing(2, 1), 5);
        w = withThings(4, 2, 100);
        due("all of 11 * 10^8", w.thing(2, 11), -3);
    }

    private static void thingAndHistory() {
        promise = 2;
        BeliefWeb w = plain(2);
        w.arrow(0, 1);
        w.see(0, 1);
        due("thing(5, 1)", w.thing(5, 1), -1);
        due("count(3)", w.count(3), 2);
        due("thing(3, 7)", w.thing(3, 7), 2);
        due("count(3)", w.count(3), 0);
        due("undo()", w.undo(), -1);
        due("about(0, 5)", w.about(0, 5), 1);
        due("count(1)", w.count(1), 1);
        w.see(0, 0);
        due("undo()", w.undo(), 0);
        due("about(0, 5)", w.about(0, 5), 1);
        due("about(2, 0)", w.about(2, 0), 3);
    }

    private static void arrow() {
        promise = 3;
        BeliefWeb w = plain(6);
        due("arrow(5, 0)", w.arrow(5, 0), 1);
        due("arrow(5, 0) again", w.arrow(5, 0), -1);
        due("arrow(0, 5)", w.arrow(0, 5), -2);
        due("arrow(0, 0)", w.arrow(0, 0), -1);
        due("arrow(0, 6)", w.arrow(0, 6), -1);
        due("arrow(-1, 0)", w.arrow(-1, 0), -1);
        due("arrow(4, 0)", w.arrow(4, 0), 2);
        due("arrow(3, 0)", w.arrow(3, 0), 3);
        due("arrow(2, 0)", w.arrow(2, 0), -3);
        due("arrow(3, 0) is there", w.arrow(3, 0), -1);
        due("arrow(0, 2)", w.arrow(0, 2), 1);
        due("arrow(2, 5) leads round by 0", w.arrow(2, 5), -2);
        due("arrow(2, 0) leads round", w.arrow(2, 0), -2);
        due("count(1)", w.count(1), 4);
        due("count(3)", w.count(3), 4);
        w = pair();
        w.thing(4, 1);
        due("arrow(2, 1)", w.arrow(2, 1), 2);
        due("rows", w.about(1, 3), 8);
        for (int r = 0; r < 8; r++) {
            due("told(1, " + r + ", 0)", w.told(1, r, 0), 6);
            due("told(1, " + r + ", 2)", w.told(1, r, 2), 0);
        }
        w = plain(3);
        w.arrow(0, 1);
        w.act(1, 0);
        w.arrow(1, 2);
        due("a ring by way of what is done", w.arrow(2, 0), -2);
    }

    private static void cut() {
        promise = 4;
        BeliefWeb w = plain(4);
        due("cut(0, 1)", w.cut(0, 1), -1);
        w.arrow(0, 3);
        w.arrow(1, 3);
        w.arrow(2, 3);
        due("cut(3, 0)", w.cut(3, 0), -1);
        due("cut(4, 3)", w.cut(4, 3), -1);
        due("cut(0, -1)", w.cut(0, -1), -1);
        due("cut(1, 3)", w.cut(1, 3), 2);
        due("cut(1, 3) again", w.cut(1, 3), -1);
        due("parent(3, 0)", w.parent(3, 0), 0);
        due("parent(3, 1)", w.parent(3, 1), 2);
        due("parent(3, 2)", w.parent(3, 2), -2);
        w.weight(3, 0, 0, 0);
        w.weight(3, 0, 1, 1);
        due("cut(0, 3)", w.cut(0, 3), 1);
        due("told(3, 0, 0)", w.told(3, 0, 0), 1);
        due("told(3, 0, 1)", w.told(3, 0, 1), 0);
        due("arrow(3, 0)", w.arrow(3, 0), 1);
        due("arrow(0, 3)", w.arrow(0, 3), -2);
    }

    private static void weight() {
        promise = 5;
        BeliefWeb w = pair();
        due("weight(1, 1, 2, 6)", w.weight(1, 1, 2, 6), 3);
        due("weight(1, 1, 2, 0)", w.weight(1, 1, 2, 0), 6);
        due("weight(1, 1, 2, 7)", w.weight(1, 1, 2, 7), -1);
        due("weight(1, 1, 2, -1)", w.weight(1, 1, 2, -1), -1);
        due("weight(1, 2, 0, 1)", w.weight(1, 2, 0, 1), -1);
        due("weight(1, -1, 0, 1)", w.weight(1, -1, 0, 1), -1);
        due("weight(1, 0, 3, 1)", w.weight(1, 0, 3, 1), -1);
        due("weight(1, 0, -1, 1)", w.weight(1, 0, -1, 1), -1);
        due("weight(2, 0, 0, 1)", w.weight(2, 0, 0, 1), -1);
        due("weight(0, 0, 0, 5)", w.weight(0, 0, 0, 5), -1);
        due("told(1, 1, 2)", w.told(1, 1, 2), 0);
        due("count(3)", w.count(3), 11);
        w = withThings(4, 4, 1);
        w.arrow(2, 3);
        w.arrow(0, 3);
        w.arrow(1, 3);
        due("the last of 64 rows", w.weight(3, 63, 3, 1), 0);
        due("a row too far", w.weight(3, 64, 3, 1), -1);
    }

    private static void told() {
        promise = 6;
        BeliefWeb w = pair();
        due("told(0, 0, 1)", w.told(0, 0, 1), 3);
        due("told(1, 0, 1)", w.told(1, 0, 1), 4);
        due("told(1, 1, 0)", w.told(1, 1, 0), 1);
        due("told(1, 2, 0)", w.told(1, 2, 0), -1);
        due("told(0, 0, 2)", w.told(0, 0, 2), -1);
        due("told(0, -1, 0)", w.told(0, -1, 0), -1);
        due("told(2, 0, 0)", w.told(2, 0, 0), -1);
        due("told(-1, 0, 0)", w.told(-1, 0, 0), -1);
    }

    private static void about() {
        promise = 7;
        BeliefWeb w = pair();
        long[] first = {2, 4, 0, 1, 1, -1, -1, -1};
        long[] second = {3, 6, 1, 2, 1, -1, -1, -1};
        for (int what = 0; what < 8; what++) {
            due("about(0, " + what + ")", w.about(0, what), first[what]);
            due("about(1, " + what + ")", w.about(1, what), second[what]);
        }
        due("about(0, -1)", w.about(0, -1), -1);
        due("about(2, 0)", w.about(2, 0), -1);
        w.weight(1, 1, 2, 4);
        due("about(1, 4)", w.about(1, 4), 0);
        w.act(1, 2);
        due("about(1, 4) when done", w.about(1, 4), 0);
        due("about(1, 6)", w.about(1, 6), 2);
        due("about(1, 5)", w.about(1, 5), -1);
        w.see(1, 1);
        due("about(1, 5)", w.about(1, 5), 1);
        due("about(1, 6)", w.about(1, 6), -1);
    }

    private static void parent() {
        promise = 8;
        BeliefWeb w = plain(4);
        w.arrow(3, 1);
        w.arrow(0, 1);
        w.arrow(2, 1);
        due("parent(1, 0)", w.parent(1, 0), 3);
        due("parent(1, 1)", w.parent(1, 1), 0);
        due("parent(1, 2)", w.parent(1, 2), 2);
        due("parent(1, 3)", w.parent(1, 3), -2);
        due("parent(1, -1)", w.parent(1, -1), -2);
        due("parent(0, 0)", w.parent(0, 0), -2);
        due("parent(4, 0)", w.parent(4, 0), -2);
        due("parent(-1, 0)", w.parent(-1, 0), -2);
    }

    private static void sound() {
        promise = 9;
        BeliefWeb w = new BeliefWeb();
        due("no things", w.sound(), 0);
        w = pair();
        due("sound", w.sound(), 1);
        w.weight(1, 1, 0, 0);
        due("a row too light", w.sound(), 0);
        w.see(1, 0);
        due("seen", w.sound(), 0);
        w.act(1, 0);
        due("done", w.sound(), 1);
        w.act(1, -1);
        due("done no more", w.sound(), 0);
        w.weight(1, 1, 0, 2);
        due("a row too heavy", w.sound(), 0);
        w.weight(1, 1, 0, 1);
        due("sound again", w.sound(), 1);
    }

    private static void see() {
        promise = 10;
        BeliefWeb w = pair();
        due("see(1, 2)", w.see(1, 2), 1);
        due("about(1, 5)", w.about(1, 5), 2);
        due("see(1, 3)", w.see(1, 3), -1);
        due("see(1, -2)", w.see(1, -2), -1);
        due("see(2, 0)", w.see(2, 0), -1);
        due("see(2, -1)", w.see(2, -1), -1);
        due("see(-1, -1)", w.see(-1, -1), -1);
        due("about(1, 5)", w.about(1, 5), 2);
        w.ask(0, 1);
        fraction(w, "ask(0, 1)", 1, 1);
        due("see(1, -1)", w.see(1, -1), 1);
        due("about(1, 5)", w.about(1, 5), -1);
        w.act(1, 1);
        due("see(1, -1) of what is done", w.see(1, -1), 1);
        due("about(1, 6)", w.about(1, 6), -1);
        w.act(1, 1);
        w.see(1, 0);
        due("about(1, 6)", w.about(1, 6), -1);
        due("about(1, 5)", w.about(1, 5), 0);
    }

    private static void act() {
        promise = 11;
        BeliefWeb w = pair();
        due("act(1, 2)", w.act(1, 2), 1);
        due("act(1, 3)", w.act(1, 3), -1);
        due("act(1, -2)", w.act(1, -2), -1);
        due("act(2, 0)", w.act(2, 0), -1);
        due("act(2, -1)", w.act(2, -1), -1);
        w.ask(0, 1);
        fraction(w, "ask(0, 1): what is done tells nothing of its parent", 3, 4);
        w.chance();
        fraction(w, "chance()", 1, 1);
        w.see(0, 0);
        due("act(0, 1) of what is seen", w.act(0, 1), 1);
        due("about(0, 5)", w.about(0, 5), -1);
        due("act(1, -1)", w.act(1, -1), 1);
        w.ask(1, 0);
        fraction(w, "ask(1, 0)", 1, 6);
        w.see(0, 0);
        due("act(0, -1) of what is seen", w.act(0, -1), 1);
        due("about(0, 5)", w.about(0, 5), -1);
    }

    private static void force() {
        promise = 12;
        BeliefWeb w = pair();
        due("force(0, 0, 3)", w.force(0, 0, 3), 1);
        w.ask(0, 0);
        fraction(w, "ask(0, 0)", 1, 2);
        w.chance();
        fraction(w, "chance()", 3, 2);
        due("force(0, 0, 0)", w.force(0, 0, 0), 3);
        w.ask(0, 1);
        fraction(w, "ask(0, 1)", 1, 1);
        due("force(0, 0, 4)", w.force(0, 0, 4), -1);
        due("force(0, 0, -1)", w.force(0, 0, -1), -1);
        due("force(0, 2, 1)", w.force(0, 2, 1), -1);
        due("force(0, -1, 1)", w.force(0, -1, 1), -1);
        due("force(2, 0, 1)", w.force(2, 0, 1), -1);
        due("force(0, 0, 2)", w.force(0, 0, 2), 0);
        w.act(0, 0);
        w.chance();
        fraction(w, "chance() with a force on what is done", 2, 1);
    }

    private static void chance() {
        promise = 13;
        BeliefWeb w = new BeliefWeb();
        due("no things", w.chance(), -4);
        w = pair();
        due("chance()", w.chance(), 1);
        fraction(w, "chance()", 1, 1);
        w.see(1, 2);
        w.chance();
        fraction(w, "chance()", 3, 8);
        w.see(0, 0);
        due("chance() of nought", w.chance(), 1);
        fraction(w, "chance() of nought", 0, 1);
        w.weight(0, 0, 0, 0);
        due("rough", w.chance(), -4);
        fraction(w, "chance() when rough", 0, 1);
    }

    private static void ask() {
        promise = 14;
        BeliefWeb w = pair();
        due("ask(1, 1)", w.ask(1, 1), 1);
        fraction(w, "ask(1, 1)", 5, 12);
        due("ask(1, 3)", w.ask(1, 3), -1);
        due("ask(1, -1)", w.ask(1, -1), -1);
        due("ask(2, 0)", w.ask(2, 0), -1);
        w.see(1, 1);
        w.ask(0, 0);
        fraction(w, "ask(0, 0)", 2, 5);
        w.see(1, 2);
        w.ask(0, 0);
        fraction(w, "ask(0, 0)", 0, 1);
        w.see(0, 0);
        due("nought", w.ask(0, 0), -5);
        w.weight(0, 0, 0, 0);
        due("rough", w.ask(0, 0), -4);
        due("bad", w.ask(0, 2), -1);
        fraction(w, "what was told before", 0, 1);
    }

    private static void both() {
        promise = 15;
        BeliefWeb w = pair();
        due("both(0, 1, 1, 0)", w.both(0, 1, 1, 0), 1);
        fraction(w, "both(0, 1, 1, 0)", 1, 8);
        w.both(1, 1, 0, 0);
        fraction(w, "both(1, 1, 0, 0)", 1, 6);
        w.both(1, 1, 1, 1);
        fraction(w, "both(1, 1, 1, 1)", 5, 12);
        w.both(1, 1, 1, 2);
        fraction(w, "both(1, 1, 1, 2)", 0, 1);
        due("both(0, 2, 1, 0)", w.both(0, 2, 1, 0), -1);
        due("both(0, 0, 1, 3)", w.both(0, 0, 1, 3), -1);
        due("both(0, 0, 2, 0)", w.both(0, 0, 2, 0), -1);
        due("both(-1, 0, 0, 0)", w.both(-1, 0, 0, 0), -1);
        w.see(0, 0);
        w.see(1, 2);
        due("nought", w.both(0, 0, 1, 0), -5);
        w.weight(0, 0, 0, 0);
        due("rough", w.both(0, 0, 1, 0), -4);
        due("bad", w.both(0, 0, 1, -1), -1);
    }

    private static void upAndDown() {
        promise = 16;
        BeliefWeb w = pair();
        due("up() at first", w.up(), 0);
        w.ask(1, 0);
        due("up()", w.up(), 5);
        w.most(0);
        w.wholes();
        w.apart(0, 1);
        w.ask(1, 7);
        due("up() after calls that tell nothing", w.up(), 5);
        promise = 17;
        due("down() after calls that tell nothing", w.down(), 24);
        w.undo();
        due("down() after undo", w.down(), 24);
        due("down() at first", new BeliefWeb().down(), 0);
    }

    private static void most() {
        promise = 18;
        BeliefWeb w = pair();
        due("most(0)", w.most(0), 1);
        due("most(1)", w.most(1), 1);
        w.see(0, 1);
        due("most(1)", w.most(1), 2);
        row(w, 1, 1, 1, 1, 4);
        due("most(1)", w.most(1), 2);
        row(w, 1, 1, 2, 2, 2);
        due("most(1), all alike", w.most(1), 0);
        due("most(2)", w.most(2), -1);
        due("most(-1)", w.most(-1), -1);
        w.force(0, 1, 0);
        due("nought", w.most(1), -5);
        w.weight(1, 0, 0, 0);
        due("rough", w.most(1), -4);
        due("bad", w.most(2), -1);
    }

    private static void likeliest() {
        promise = 19;
        BeliefWeb w = pair();
        due("likeliest(-1)", w.likeliest(-1), -1);
        due("likeliest(10)", w.likeliest(10), -1);
        int[][] wholes = {{1, 2}, {1, 1}, {0, 1}, {1, 0}, {0, 0}};
        long[][] told = {{3, 8}, {1, 4}, {1, 6}, {1, 8}, {1, 12}};
        for (int k = 0; k < 5; k++) {
            due("likeliest(" + k + ")", w.likeliest(k), 1);
            fraction(w, "likeliest(" + k + ")", told[k][0], told[k][1]);
            due("at(0)", w.at(0), wholes[k][0]);
            due("at(1)", w.at(1), wholes[k][1]);
        }
        due("likeliest(5)", w.likeliest(5), 0);
        fraction(w, "likeliest(5), as before", 1, 12);
        due("at(1), as before", w.at(1), 0);
        w.see(1, 2);
        due("likeliest(0)", w.likeliest(0), 1);
        fraction(w, "likeliest(0) when seen", 1, 1);
        due("likeliest(1)", w.likeliest(1), 0);
        w.see(0, 0);
        due("nought", w.likeliest(0), 0);
        w.weight(0, 0, 0, 0);
        due("rough", w.likeliest(0), -4);
        due("bad", w.likeliest(HIGH), -1);
        due("no things", new BeliefWeb().likeliest(9), -4);
    }

    private static void likeliestTies() {
        promise = 19;
        BeliefWeb w = withThings(3, 3, 3);
        for (int x = 0; x < 3; x++) row(w, x, 0, 1, 1, 1);
        w.arrow(2, 0);
        for (int r = 0; r < 3; r++) row(w, 0, r, 1, 1, 1);
        for (int k = 0; k < 10; k++) {
            due("likeliest(" + k + ")", w.likeliest(k), 1);
            fraction(w, "likeliest(" + k + ")", 1, 27);
            due("at(0)", w.at(0), k / 9);
            due("at(1)", w.at(1), k / 3 % 3);
            due("at(2)", w.at(2), k % 3);
        }
        w.force(0, 2, 2);
        w.likeliest(9);
        due("at(0)", w.at(0), 0);
        due("at(1)", w.at(1), 0);
        due("at(2)", w.at(2), 0);
    }

    private static void at() {
        promise = 20;
        BeliefWeb w = pair();
        due("at(0), none shown", w.at(0), -2);
        w.likeliest(0);
        due("at(0)", w.at(0), 1);
        due("at(1)", w.at(1), 2);
        due("at(2)", w.at(2), -2);
        due("at(-1)", w.at(-1), -2);
        w.see(0, 0);
        w.thing(2, 1);
        w.undo();
        due("at(1), still", w.at(1), 2);
        due("at(2), made later", w.at(2), -2);
        w.likeliest(0);
        due("at(2), shown anew", w.at(2), 0);
        due("at(3)", w.at(3), -2);
    }

    private static void wholes() {
        promise = 21;
        BeliefWeb w = pair();
        due("wholes()", w.wholes(), 5);
        w.see(0, 0);
        due("wholes()", w.wholes(), 2);
        w.force(1, 0, 0);
        due("wholes()", w.wholes(), 1);
        w.see(1, 0);
        due("wholes()", w.wholes(), 0);
        w.weight(0, 0, 0, 0);
        due("rough", w.wholes(), -4);
        due("no things", new BeliefWeb().wholes(), -4);
        w = withThings(7, 4, 4);
        for (int x = 0; x < 7; x++) row(w, x, 0, 1, 1, 1, 1);
        due("all", w.wholes(), 16384);
    }

    private static void apart() {
        promise = 22;
        BeliefWeb w = plain(6);
        w.arrow(0, 1);
        w.arrow(1, 2);
        due("a row", w.apart(0, 2), 0);
        w.see(1, 0);
        due("a row, seen between", w.apart(0, 2), 1);
        due("neighbours, one seen", w.apart(0, 1), 0);
        w.see(1, -1);
        due("no road", w.apart(0, 3), 1);
        due("itself", w.apart(3, 3), 0);
        due("apart(0, 6)", w.apart(0, 6), -1);
        due("apart(-1, 0)", w.apart(-1, 0), -1);
        due("apart(6, 6)", w.apart(6, 6), -1);
        w = plain(6);
        w.arrow(0, 2);
        w.arrow(1, 2);
        w.arrow(2, 3);
        w.arrow(3, 4);
        due("two ends", w.apart(0, 1), 1);
        w.see(4, 0);
        due("two ends, seen far below", w.apart(1, 0), 0);
        w.see(3, 0);
        due("two ends, seen below", w.apart(1, 0), 0);
        due("the seen end of a road", w.apart(0, 4), 1);
        due("a seen thing as an end", w.apart(0, 3), 0);
        w.weight(0, 0, 0, 0);
        due("when rough", w.apart(0, 3), 0);
        w = plain(3);
        w.arrow(0, 1);
        w.arrow(0, 2);
        due("one source", w.apart(1, 2), 0);
        w.act(0, 0);
        due("one source, done", w.apart(1, 2), 1);
    }

    private static void apartDone() {
        promise = 22;
        BeliefWeb w = plain(5);
        w.arrow(0, 2);
        w.arrow(1, 2);
        w.arrow(2, 3);
        w.arrow(3, 4);
        w.see(4, 0);
        w.act(3, 0);
        due("what is seen lies behind what is done", w.apart(0, 1), 1);
        w.act(3, -1);
        due("done no more", w.apart(0, 1), 0);
        w.act(2, 0);
        due("both ends at what is done", w.apart(0, 1), 1);
        due("arrow to what is done", w.apart(0, 2), 1);
        due("arrow from what is done", w.apart(2, 3), 0);
        w = plain(4);
        w.arrow(0, 1);
        w.arrow(2, 1);
        w.arrow(1, 3);
        w.see(3, 0);
        due("the end itself is what is seen", w.apart(0, 3), 0);
        due("the road's end is seen and opens it", w.apart(0, 2), 0);
        w = plain(4);
        w.arrow(0, 1);
        w.arrow(2, 1);
        w.arrow(2, 0);
        w.arrow(2, 3);
        w.see(2, 0);
        due("a road may not come back by its own end", w.apart(0, 3), 1);
    }

    private static void options() {
        promise = 23;
        BeliefWeb w = pair();
        due("options(2)", w.options(2), 0);
        due("options(7)", w.options(7), -1);
        due("options(-1)", w.options(-1), -1);
        w.worth(0, 0, 0, 5);
        w.worth(1, 1, 2, 9);
        due("options(6)", w.options(6), 2);
        due("worth(5, 1, 2, 3)", w.worth(5, 1, 2, 3), 0);
        due("options(1)", w.options(1), 6);
        due("options(6)", w.options(6), 1);
        due("kept", w.worth(0, 0, 0, 6), 5);
        due("new again", w.worth(1, 1, 2, 1), 0);
        due("new again", w.worth(5, 1, 2, 1), 0);
        due("options(0)", w.options(0), 6);
        due("options(0)", w.options(0), 0);
    }

    private static void worth() {
        promise = 24;
        BeliefWeb w = pair();
        due("no options", w.worth(0, 0, 0, 1), 10000);
        w.options(2);
        due("worth(1, 1, 2, -500)", w.worth(1, 1, 2, -500), 0);
        due("worth(1, 1, 2, 500)", w.worth(1, 1, 2, 500), -500);
        due("worth(1, 1, 2, 501)", w.worth(1, 1, 2, 501), 10000);
        due("worth(1, 1, 2, -501)", w.worth(1, 1, 2, -501), 10000);
        due("worth(2, 1, 2, 1)", w.worth(2, 1, 2, 1), 10000);
        due("worth(-1, 1, 2, 1)", w.worth(-1, 1, 2, 1), 10000);
        due("worth(1, 2, 0, 1)", w.worth(1, 2, 0, 1), 10000);
        due("worth(1, 1, 3, 1)", w.worth(1, 1, 3, 1), 10000);
        due("worth(1, 1, -1, 1)", w.worth(1, 1, -1, 1), 10000);
        due("worth(1, 1, 2, -1)", w.worth(1, 1, 2, -1), 500);
        due("worth(1, 1, 2, 0)", w.worth(1, 1, 2, 0), -1);
        due("another option", w.worth(0, 1, 2, 0), 0);
        due("count(3)", w.count(3), 9 + 1 + 5);
    }

    private static void expected() {
        promise = 25;
        BeliefWeb w = pair();
        due("no options", w.expected(0), -1);
        w.options(2);
        w.worth(0, 0, 1, -10);
        w.worth(0, 1, 2, 4);
        due("expected(0)", w.expected(0), 1);
        fraction(w, "expected(0)", -6, 1);
        due("expected(1)", w.expected(1), 1);
        fraction(w, "expected(1)", 0, 1);
        w.see(0, 1);
        w.worth(0, 1, 2, 5);
        w.expected(0);
        fraction(w, "expected(0)", -15, 2);
        due("expected(2)", w.expected(2), -1);
        due("expected(-1)", w.expected(-1), -1);
        w.force(0, 1, 0);
        due("nought", w.expected(0), -5);
        w.weight(0, 0, 0, 0);
        due("rough", w.expected(0), -4);
        due("bad", w.expected(2), -1);
        fraction(w, "what was told before", -15, 2);
    }

    private static void best() {
        promise = 26;
        BeliefWeb w = pair();
        due("no options", w.best(), -1);
        w.options(3);
        due("all alike", w.best(), 0);
        fraction(w, "best(), all alike", 0, 1);
        w.worth(0, 0, 0, -1);
        due("the least of two", w.best(), 1);
        w.worth(2, 0, 1, 2);
        due("best()", w.best(), 2);
        fraction(w, "best()", 3, 2);
        w.worth(1, 0, 0, -9);
        w.worth(2, 0, 0, -7);
        w.see(0, 0);
        due("all below 0", w.best(), 0);
        fraction(w, "all below 0", -1, 1);
        w.see(1, 2);
        due("nought", w.best(), -5);
        w.weight(1, 0, 0, 0);
        due("rough", w.best(), -4);
        w.options(0);
        due("bad", w.best(), -1);
        w = new BeliefWeb();
        w.options(2);
        due("no things", w.best(), -4);
    }

    private static void gain() {
        promise = 27;
        BeliefWeb w = pair();
        due("no options", w.gain(0), -1);
        w.options(2);
        w.worth(0, 0, 0, 100);
        w.worth(1, 0, 1, 40);
        due("gain(0)", w.gain(0), 1);
        fraction(w, "gain(0): (100 + 120) / 4 - 30", 25, 1);
        due("gain(1)", w.gain(1), 1);
        fraction(w, "gain(1): (200 + 400 + 360) / 24 - 30", 10, 1);
        due("gain(2)", w.gain(2), -1);
        due("gain(-1)", w.gain(-1), -1);
        w.see(1, 2);
        due("gain(1), seen", w.gain(1), 1);
        fraction(w, "gain(1), seen", 0, 1);
        w.act(1, 2);
        w.gain(0);
        fraction(w, "gain(0)", 25, 1);
        w.gain(1);
        fraction(w, "gain(1), done", 0, 1);
        w.see(1, 2);
        w.force(0, 1, 0);
        due("nought, though seen", w.gain(1), -5);
        w.weight(0, 0, 0, 0);
        due("rough", w.gain(1), -4);
        due("bad", w.gain(2), -1);
    }

    private static void next() {
        promise = 28;
        BeliefWeb w = pair();
        due("no options", w.next(), -1);
        w.options(2);
        due("all alike", w.next(), 0);
        fraction(w, "all alike", 0, 1);
        w.worth(0, 1, 0, 60);
        w.worth(1, 1, 2, 60);
        due("next()", w.next(), 1);
        fraction(w, "next()", 25, 2);
        w.see(1, 0);
        due("next()", w.next(), 0);
        fraction(w, "next()", 0, 1);
        w.ask(0, 1);
        w.act(0, 1);
        due("all known", w.next(), -6);
        fraction(w, "all known, as before", 3, 5);
        w.force(1, 0, 0);
        due("nought, all known", w.next(), -5);
        w.act(0, -1);
        w.weight(0, 0, 0, 0);
        due("rough", w.next(), -4);
        w.options(0);
        due("bad", w.next(), -1);
    }

    private static void undo() {
        promise = 29;
        BeliefWeb w = pair();
        int acts = w.count(3);
        due("nine acts", acts, 9);
        w.likeliest(0);
        w.ask(0, 1);
        w.see(0, 9);
        w.chance();
        due("questions and refusals are no acts", w.count(3), 9);
        due("undo()", w.undo(), 8);
        due("told(1, 1, 2)", w.told(1, 1, 2), 0);
        due("at(0) stays", w.at(0), 1);
        fraction(w, "undo(), as before", 1, 1);
        for (int left = 7; left >= 0; left--) due("undo()", w.undo(), left);
        due("undo()", w.undo(), -1);
        due("count(1)", w.count(1), 0);
        due("count(0)", w.count(0), 2);
        due("told(0, 0, 0)", w.told(0, 0, 0), 4);
        due("told(1, 0, 0)", w.told(1, 0, 0), 6);
        w = new BeliefWeb();
        w.options(3);
        due("undo() with no things", w.undo(), 0);
        due("count(2)", w.count(2), 0);
    }

    private static void undoEachKind() {
        promise = 29;
        BeliefWeb w = pair();
        w.cut(0, 1);
        w.undo();
        due("cut undone: parents", w.parent(1, 0), 0);
        due("cut undone: weights", w.told(1, 1, 2), 3);
        w.see(0, 1);
        w.act(0, 0);
        w.undo();
        due("act undone: seen again", w.about(0, 5), 1);
        due("act undone: done no more", w.about(0, 6), -1);
        w.act(0, 0);
        w.see(0, -1);
        w.undo();
        due("see undone: done again", w.about(0, 6), 0);
        w.force(1, 2, 3);
        w.force(1, 2, 0);
        w.undo();
        due("force undone", w.force(1, 2, 3), 3);
        w.options(2);
        w.worth(1, 0, 0, 7);
        w.worth(1, 0, 0, 8);
        w.undo();
        due("worth undone", w.worth(1, 0, 0, 7), 7);
        w.options(1);
        w.options(4);
        w.undo();
        w.undo();
        due("options undone", w.count(2), 2);
        due("options undone: worth", w.worth(1, 0, 0, 0), 7);
        w = plain(4);
        w.arrow(0, 3);
        w.weight(3, 1, 0, 0);
        w.arrow(1, 3);
        w.arrow(2, 3);
        w.cut(0, 3);
        w.undo();
        due("the order of parents", w.parent(3, 0), 0);
        due("the order of parents", w.parent(3, 1), 1);
        due("the order of parents", w.parent(3, 2), 2);
        w.undo();
        w.undo();
        due("arrow undone: rows", w.about(3, 3), 2);
        due("arrow undone: weights", w.told(3, 1, 0), 0);
    }

    private static void undoHundred() {
        promise = 29;
        BeliefWeb w = withThings(1, 2, 100);
        for (int i = 1; i <= 100; i++) w.weight(0, 0, 1, i);
        due("count(3)", w.count(3), 100);
        w.weight(0, 0, 1, 0);
        due("count(3) stays", w.count(3), 100);
        for (int left = 99; left >= 0; left--) due("undo()", w.undo(), left);
        due("undo() of the act that is too old", w.undo(), -1);
        due("told(0, 0, 1)", w.told(0, 0, 1), 1);
        for (int i = 0; i < 50; i++) w.see(0, i % 2);
        for (int i = 0; i < 30; i++) w.undo();
        for (int i = 0; i < 90; i++) w.see(0, -1);
        due("count(3)", w.count(3), 100);
        for (int left = 99; left >= 10; left--) due("undo()", w.undo(), left);
        due("about(0, 5)", w.about(0, 5), 1);
        due("undo()", w.undo(), 9);
        due("about(0, 5)", w.about(0, 5), 0);
    }

    private static void count() {
        promise = 30;
        BeliefWeb w = plain(4);
        w.arrow(0, 3);
        w.arrow(1, 3);
        w.arrow(0, 2);
        w.cut(0, 3);
        w.options(5);
        due("count(0)", w.count(0), 4);
        due("count(1)", w.count(1), 2);
        due("count(2)", w.count(2), 5);
        due("count(3)", w.count(3), 5);
        due("count(4)", w.count(4), -1);
        due("count(-1)", w.count(-1), -1);
        w.undo();
        due("count(2)", w.count(2), 0);
        due("count(3)", w.count(3), 4);
        w.undo();
        due("count(1)", w.count(1), 3);
    }

    private static void orderOfAnswers() {
        promise = 3;
        BeliefWeb w = plain(5);
        w.arrow(0, 4);
        w.arrow(1, 4);
        w.arrow(2, 4);
        w.arrow(4, 3);
        due("RING before MANY", w.arrow(3, 4), -2);
        due("MANY", w.arrow(4, 3), -1);
        promise = 28;
        w = new BeliefWeb();
        w.options(1);
        due("ROUGH where there are no things", w.next(), -4);
        promise = 27;
        due("BAD where there are no things", w.gain(0), -1);
        promise = 13;
        w = plain(1);
        w.weight(0, 0, 0, 0);
        w.force(0, 0, 0);
        w.force(0, 1, 0);
        due("ROUGH before NOUGHT", w.ask(0, 0), -4);
    }

    /** Twelve things, all of 10^9, every force 3 and every worth at its end: sums that just fit a long. */
    private static void largest() {
        promise = 25;
        BeliefWeb w = new BeliefWeb();
        for (int x = 0; x < 12; x++) w.thing(x < 2 ? 4 : 2, x < 9 ? 10 : 1);
        w.options(2);
        for (int x = 0; x < 12; x++) {
            int values = w.about(x, 0);
            if (x == 0) row(w, 0, 0, 5, 5, 0, 0);
            for (int v = 0; v < values; v++) {
                w.force(x, v, 3);
                w.worth(0, x, v, -500);
                w.worth(1, x, v, x == 0 && v == 1 ? 500 : -500);
            }
        }
        w.chance();
        fraction(w, "chance()", 531441, 1);
        w.expected(0);
        fraction(w, "expected(0)", -6000, 1);
        due("best()", w.best(), 1);
        fraction(w, "best()", -5500, 1);
        for (int x = 1; x < 12; x++) for (int v = 0; v < w.about(x, 0); v++) w.worth(1, x, v, 500);
        w.expected(1);
        fraction(w, "expected(1)", 5500, 1);
        due("wholes()", w.wholes(), 2);
    }

    /** Eleven things that follow thing 0, and two options that are each right for one of its values. */
    private static void largestGain() {
        promise = 27;
        BeliefWeb w = new BeliefWeb();
        for (int x = 0; x < 12; x++) w.thing(2, x < 9 ? 10 : 1);
        w.options(2);
        for (int x = 0; x < 12; x++) {
            if (x == 0) {
                row(w, 0, 0, 5, 5);
            } else {
                w.arrow(0, x);
                row(w, x, 1, 0, x < 9 ? 10 : 1);
            }
            for (int v = 0; v < 2; v++) {
                w.force(x, v, 3);
                w.worth(0, x, v, v == 0 ? 500 : -500);
                w.worth(1, x, v, v == 0 ? -500 : 500);
            }
        }
        w.expected(1);
        fraction(w, "expected(1)", 0, 1);
        for (int x = 0; x < 12; x++) {
            due("gain(" + x + ")", w.gain(x), 1);
            fraction(w, "gain(" + x + ")", 6000, 1);
        }
        due("next()", w.next(), 0);
        fraction(w, "next()", 6000, 1);
    }

    /** Twelve things, the last of four values: every call at the ends of its arrays. */
    private static void fullWeb() {
        promise = 2;
        BeliefWeb w = new BeliefWeb();
        for (int x = 0; x < 11; x++) w.thing(2, 2);
        due("thing(4, 2)", w.thing(4, 2), 11);
        promise = 3;
        for (int p = 8; p < 11; p++) due("arrow(" + p + ", 11)", w.arrow(p, 11), p - 7);
        due("arrow(11, 8)", w.arrow(11, 8), -2);
        due("count(1)", w.count(1), 3);
        due("parent(11, 2)", w.parent(11, 2), 10);
        for (int r = 0; r < 8; r++) row(w, 11, r, 0, 0, 1, 1);
        due("sound()", w.sound(), 1);
        promise = 25;
        due("options(6)", w.options(6), 0);
        due("worth(5, 11, 3, 500)", w.worth(5, 11, 3, 500), 0);
        due("force(11, 3, 3)", w.force(11, 3, 3), 1);
        due("expected(5)", w.expected(5), 1);
        fraction(w, "expected(5)", 375, 1);
        due("both(11, 3, 10, 0)", w.both(11, 3, 10, 0), 1);
        fraction(w, "both(11, 3, 10, 0)", 3, 4);
        due("best()", w.best(), 5);
        due("gain(11)", w.gain(11), 1);
        fraction(w, "gain(11)", 0, 1);
        due("next()", w.next(), 0);
        due("most(11)", w.most(11), 3);
        due("likeliest(1)", w.likeliest(1), 1);
        due("at(11)", w.at(11), 2);
        due("at(12)", w.at(12), -2);
        due("wholes()", w.wholes(), 2);
        due("chance()", w.chance(), 1);
        fraction(w, "chance()", 2, 1);
        due("apart(8, 10)", w.apart(8, 10), 1);
        due("see(11, 3)", w.see(11, 3), 1);
        due("apart(8, 10)", w.apart(8, 10), 0);
        due("apart(0, 11)", w.apart(0, 11), 1);
        due("cut(10, 11)", w.cut(10, 11), 2);
        due("undo()", w.undo(), w.count(3));
        due("about(11, 3)", w.about(11, 3), 8);
    }

    /** No number may make a call throw, on an empty web or a full one. */
    private static void wrongNumbers() {
        promise = 7;
        int[] numbers = {LOW, LOW + 1, -65536, -3, -2, -1, 12, 13, 64, 65536, 1 << 30, HIGH - 1, HIGH};
        for (BeliefWeb w : new BeliefWeb[] {new BeliefWeb(), pair(), plain(12)}) {
            for (int n : numbers) {
                due("thing", w.thing(n, 1), -1);
                due("arrow", w.arrow(n, 0), -1);
                due("arrow", w.arrow(0, n), -1);
                due("cut", w.cut(n, n), -1);
                due("weight", w.weight(n, 0, 0, 0), -1);
                due("weight", w.weight(0, n, 0, 0), -1);
                due("weight", w.weight(0, 0, n, 0), -1);
                due("told", w.told(0, n, n), -1);
                due("about", w.about(n, n), -1);
                due("parent", w.parent(0, n), -2);
                due("parent", w.parent(n, 0), -2);
                due("see", w.see(n, -1), -1);
                due("act", w.act(n, 0), -1);
                if (n != -1) due("see", w.see(0, n), -1);
                if (n != -1) due("act", w.act(0, n), -1);
                due("force", w.force(0, 0, n), -1);
                due("ask", w.ask(0, n), -1);
                due("both", w.both(0, 0, 0, n), -1);
                due("both", w.both(n, 0, 0, 0), -1);
                due("most", w.most(n), -1);
                due("likeliest", w.likeliest(n), -1);
                due("at", w.at(n), -2);
                due("apart", w.apart(0, n), -1);
                due("options", w.options(n), -1);
                due("worth", w.worth(n, 0, 0, 0), 10000);
                due("expected", w.expected(n), -1);
                due("gain", w.gain(n), -1);
                due("count", w.count(n), -1);
            }
        }
    }
}
