/** Long mixed runs of calls, each answer held against PlainModel's. The runs are always the same. */
public final class ModelTest {
    private static final int CALLS = 512;

    private long seed;
    private BeliefWeb web;
    private PlainModel model;
    private int calls;
    private int wrong;
    private StringBuilder log;
    private boolean big;

    public static void main(String[] args) {
        ModelTest test = new ModelTest();
        int runs = 0;
        for (int run = 0; run < 400 && test.wrong < 5; run++, runs++) test.mixed(run, 5, false);
        for (int run = 0; run < 60 && test.wrong < 5; run++, runs++) test.roads(run);
        for (int run = 0; run < 60 && test.wrong < 5; run++, runs++) test.backAndForth(run);
        for (int run = 0; run < 4 && test.wrong < 5; run++, runs++) test.mixed(1000 + run, 12, true);
        System.out.println(runs + " runs against the plain model, " + test.wrong + " wrong answers");
        if (test.wrong > 0) System.exit(1);
    }

    private int up(int bound) {
        seed = seed * 6364136223846793005L + 1442695040888963407L;
        return (int) ((seed >>> 33) % bound);
    }

    private void begin(int run) {
        seed = run * 7919L + 17;
        for (int i = 0; i < 5; i++) up(2);
        web = new BeliefWeb();
        model = new PlainModel();
        calls = 0;
        log = new StringBuilder();
    }

    private int due(String call, long got, long want) {
        calls++;
        log.append(call).append(" -> ").append(got).append('\n');
        if (got != want) {
            wrong++;
            String all = log.toString();
            System.out.println(all.substring(Math.max(0, all.length() - 3000)) + "DUE: " + want);
        }
        return (int) got;
    }

    private void mixed(int run, int mostThings, boolean large) {
        begin(run);
        big = large;
        int things = 1 + up(mostThings);
        if (large) things = 6 + 2 * (run % 4);
        for (int i = 0; i < things; i++) makeThing();
        for (int i = 0; i < 2 * things; i++) makeArrow();
        for (int x = 0; x < model.now.things.size(); x++) fillTable(x);
        if (large) setWorths();
        int end = large ? calls + 60 : CALLS - 80;
        while (calls < end && wrong < 5) oneCall();
    }

    private void roads(int run) {
        begin(run);
        for (int i = 0; i < 5 + run % 8; i++) due("thing(2, 1)", web.thing(2, 1), model.thing(2, 1));
        for (int i = 0; i < 10 + run % 20; i++) makeArrow();
        while (calls < 400 && wrong < 5) {
            int x = thing(), value = up(4) == 0 ? -1 : 0;
            switch (up(12)) {
                case 0: case 1: due("see(" + x + ", " + value + ")", web.see(x, value), model.see(x, value)); break;
                case 2: due("act(" + x + ", " + value + ")", web.act(x, value), model.act(x, value)); break;
                case 3: due("undo()", web.undo(), model.undo()); break;
                case 4: makeArrow(); break;
                case 5: cutArrow(); break;
                case 6: due("count(1)", web.count(1), model.count(1)); break;
                default: askApart();
            }
        }
    }

    private void backAndForth(int run) {
        begin(run);
        big = false;
        for (int i = 0; i < 2 + run % 3; i++) makeThing();
        while (calls < 400 && wrong < 5) {
            int forth = up(run % 2 == 0 ? 160 : 20);
            for (int i = 0; i < forth && calls < 400; i++) oneAct();
            int back = up(run % 2 == 0 ? 130 : 20);
            for (int i = 0; i < back && calls < 450; i++) due("undo()", web.undo(), model.undo());
            compareAll();
        }
    }

    /** Every weight, parent, knowledge and count; told calls are not part of the 512 that are counted. */
    private void compareAll() {
        int kept = calls;
        for (int x = 0; x < model.now.things.size(); x++) {
            for (int what = 0; what < 7; what++) due("about(" + x + ", " + what + ")", web.about(x, what), model.about(x, what));
            for (int k = 0; k < 3; k++) due("parent(" + x + ", " + k + ")", web.parent(x, k), model.parent(x, k));
            for (int r = 0; r < model.about(x, 3); r++)
                for (int v = 0; v < model.about(x, 0); v++) due("told(" + x + ", " + r + ", " + v + ")", web.told(x, r, v), model.told(x, r, v));
        }
        for (int what = -1; what < 5; what++) due("count(" + what + ")", web.count(what), model.count(what));
        for (int o = 0; o < model.count(2); o++) {
            due("expected(" + o + ")", web.expected(o), model.expected(o));
            fraction();
        }
        calls = kept;
    }

    private void makeThing() {
        int values = up(20) == 0 ? up(7) : big ? 2 + up(2) : 2 + up(3);
        int total = up(20) == 0 ? up(110) : big ? 2 + up(5) : 1 + up(up(3) == 0 ? 100 : 12);
        due("thing(" + values + ", " + total + ")", web.thing(values, total), model.thing(values, total));
    }

    private void makeArrow() {
        int a = thing(), b = thing();
        due("arrow(" + a + ", " + b + ")", web.arrow(a, b), model.arrow(a, b));
    }

    private void cutArrow() {
        int a = thing(), b = thing();
        if (up(3) > 0) {
            int p = model.parent(b, up(3));
            a = p >= 0 ? p : a;
        }
        due("cut(" + a + ", " + b + ")", web.cut(a, b), model.cut(a, b));
    }

    private void askApart() {
        int x = thing(), y = thing();
        due("apart(" + x + ", " + y + ")", web.apart(x, y), model.apart(x, y));
    }

    private void fillTable(int x) {
        for (int row = 0; row < model.about(x, 3) && calls < CALLS - 40; row++) fillRow(x, row);
    }

    private void fillRow(int x, int row) {
        int left = model.about(x, 1), values = model.about(x, 0);
        for (int v = 0; v < values; v++) {
            int w = v == values - 1 ? left : up(4) == 0 ? 0 : up(left + 1);
            left -= w;
            due("weight(" + x + ", " + row + ", " + v + ", " + w + ")", web.weight(x, row, v, w), model.weight(x, row, v, w));
        }
    }

    private void setWorths() {
        due("options(3)", web.options(3), model.options(3));
        for (int i = 0; i < 20; i++) oneWorth();
    }

    private void oneWorth() {
        int o = up(20) == 0 ? up(9) - 1 : up(Math.max(1, model.count(2)));
        int x = thing(), v = value(x), u = up(20) == 0 ? up(2200) - 1100 : up(1001) - 500;
        due("worth(" + o + ", " + x + ", " + v + ", " + u + ")", web.worth(o, x, v, u), model.worth(o, x, v, u));
    }

    private int thing() {
        int many = Math.max(1, model.count(0));
        return up(30) == 0 ? up(16) - 2 : up(many);
    }

    private int value(int x) {
        int values = Math.max(2, model.about(x, 0));
        return up(25) == 0 ? up(7) - 2 : up(values);
    }

    private void fraction() {
        due("up()", web.up(), model.up());
        due("down()", web.down(), model.down());
    }

    private void oneCall() {
        if (up(5) < 2) oneAct(); else oneQuestion();
        fraction();
    }

    private void oneAct() {
        int x = thing(), v = value(x);
        switch (up(12)) {
            case 0: makeArrow(); break;
            case 1: cutArrow(); break;
            case 2: case 3: if (x >= 0 && x < model.count(0)) fillRow(x, up(model.about(x, 3))); break;
            case 4: {
                int row = up(10) == 0 ? up(80) - 2 : up(Math.max(1, model.about(x, 3)));
                int w = up(Math.max(1, model.about(x, 1)) + 2) - (up(10) == 0 ? 1 : 0);
                due("weight(" + x + ", " + row + ", " + v + ", " + w + ")", web.weight(x, row, v, w), model.weight(x, row, v, w));
                due("told(" + x + ", " + row + ", " + v + ")", web.told(x, row, v), model.told(x, row, v));
                if (up(3) > 0) due("undo()", web.undo(), model.undo());
                break;
            }
            case 5: case 6: {
                int s = up(3) == 0 ? -1 : v;
                due("see(" + x + ", " + s + ")", web.see(x, s), model.see(x, s));
                break;
            }
            case 7: {
                int s = up(2) == 0 ? -1 : v;
                due("act(" + x + ", " + s + ")", web.act(x, s), model.act(x, s));
                break;
            }
            case 8: {
                int f = up(20) == 0 ? up(8) - 2 : up(8) == 0 ? 0 : 1 + up(3);
                due("force(" + x + ", " + v + ", " + f + ")", web.force(x, v, f), model.force(x, v, f));
                break;
            }
            case 9: {
                int n = up(15) == 0 ? up(12) - 3 : up(7);
                due("options(" + n + ")", web.options(n), model.options(n));
                break;
            }
            default: oneWorth();
        }
    }

    private void oneQuestion() {
        int x = thing(), v = value(x), y = thing(), w = value(y), o = up(8) - 1;
        switch (up(big ? 17 : 18)) {
            case 0: due("chance()", web.chance(), model.chance()); break;
            case 1: due("ask(" + x + ", " + v + ")", web.ask(x, v), model.ask(x, v)); break;
            case 2: due("both(" + x + ", " + v + ", " + y + ", " + w + ")", web.both(x, v, y, w), model.both(x, v, y, w)); break;
            case 3: due("most(" + x + ")", web.most(x), model.most(x)); break;
            case 4: case 5: {
                int k = up(up(2) == 0 ? 12 : 3) - (up(20) == 0 ? 1 : 0);
                due("likeliest(" + k + ")", web.likeliest(k), model.likeliest(k));
                for (int t = -1; t < 13; t++) due("at(" + t + ")", web.at(t), model.at(t));
                calls -= 13;
                break;
            }
            case 6: due("wholes()", web.wholes(), model.wholes()); break;
            case 7: case 8: askApart(); break;
            case 9: due("expected(" + o + ")", web.expected(o), model.expected(o)); break;
            case 10: due("best()", web.best(), model.best()); break;
            case 11: case 12: if (!big || up(3) == 0) due("gain(" + x + ")", web.gain(x), model.gain(x)); break;
            case 13: due("sound()", web.sound(), model.sound()); break;
            case 14: due("undo()", web.undo(), model.undo()); break;
            case 15: {
                int what = up(9) - 1;
                due("about(" + x + ", " + what + ")", web.about(x, what), model.about(x, what));
                due("parent(" + x + ", " + o + ")", web.parent(x, o), model.parent(x, o));
                break;
            }
            case 16: due("count(" + o + ")", web.count(o), model.count(o)); break;
            default:
                due("next()", web.next(), model.next());
                if (up(40) == 0) makeThing();
        }
    }
}
