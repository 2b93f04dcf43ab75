import java.lang.reflect.InvocationTargetException;
import java.lang.reflect.Method;
import java.lang.reflect.Modifier;
import java.util.ArrayList;
import java.util.HashMap;
import java.util.List;
import java.util.Map;
import java.util.TreeSet;

/**
 * Runs small scripts of calls, one for each sentence of the document that names an edge.
 *
 * A script's lines:
 *   call(1, 2) = 3          the answer that is due
 *   call(1, 2) = 1 : 5/6    and what up() and down() tell behind it
 *   call(1, 2) ! -1         the answer that is due, and the call changes nothing
 *   call({0 LOW}, 2) = 3    once for each number in the braces
 *   5 x call(1, 2)          five times, whatever it answers
 *   row 1 0 : 2 4 0         the weights of thing 1's row 0
 *   # a remark
 */
final class Edges {
    /** Thing 0 (2 values, total 4) leads to thing 1 (3 values, total 6); 9 acts. */
    static final String PAIR = """
        thing(2, 4) = 0
        thing(3, 6) = 1
        arrow(0, 1) = 1
        row 0 0 : 1 3
        row 1 0 : 2 4 0
        row 1 1 : 1 2 3
        """;

    /** Behind PAIR: THE SUM becomes 0. */
    static final String NOUGHT = """
        see(0, 0) = 1
        see(1, 2) = 1
        """;

    /** Behind PAIR: thing 1's last row becomes too light. */
    static final String ROUGH = """
        weight(1, 1, 2, 2) = 3
        """;

    /** No more is promised of an object. */
    private static final int MOST_CALLS = 512;
    private static final Map<String, Method> FACE = new HashMap<>();

    static {
        for (Method m : BeliefWeb.class.getDeclaredMethods())
            if (Modifier.isPublic(m.getModifiers())) FACE.put(m.getName(), m);
    }

    private final TreeSet<Integer> promises = new TreeSet<>();
    private int edges = 0;
    private int wrong = 0;
    private String title = "";

    private BeliefWeb web;
    /** All calls of the script so far, and those that are not refused. */
    private List<Call> made;
    private List<Call> kept;

    private record Call(String text, Method method, Object[] numbers) {
        long on(BeliefWeb w) throws Exception {
            return ((Number) method.invoke(w, numbers)).longValue();
        }
    }

    /** One edge of a promise: the document's words, what of them is tried, and the calls. */
    void edge(int promise, String words, String what, String script) {
        promises.add(promise);
        edges++;
        title = "promise " + promise + ", \"" + words + "\", " + what;
        web = new BeliefWeb();
        made = new ArrayList<>();
        kept = new ArrayList<>();
        try {
            for (String line : script.split("\n")) if (!line.isBlank() && !line.strip().startsWith("#")) line(line.strip());
        } catch (InvocationTargetException thrown) {
            fault("a call threw " + thrown.getCause());
        } catch (Exception notAScript) {
            fault("the script is no script: " + notAScript);
        }
    }

    void fault(String what) {
        wrong++;
        System.out.println(title + ": " + what);
    }

    /** Fails the process if an answer was wrong or a promise from first to last has no edge here. */
    void end(int first, int last) {
        title = "the tests themselves";
        for (int p = first; p <= last; p++) if (!promises.contains(p)) fault("promise " + p + " has no edge");
        System.out.println(edges + " edges, " + wrong + " faults");
        if (wrong != 0) System.exit(1);
    }

    private void line(String line) throws Exception {
        if (line.startsWith("row ")) {
            String[] row = line.substring(4).split(":");
            String[] place = row[0].strip().split(" ");
            String[] weights = row[1].strip().split(" ");
            for (int v = 0; v < weights.length; v++)
                make(call("weight(" + place[0] + ", " + place[1] + ", " + v + ", " + weights[v] + ")"), true);
            return;
        }
        int times = line.indexOf(" x ");
        if (times > 0) {
            int many = Integer.parseInt(line.substring(0, times));
            for (int i = 0; i < many; i++) make(call(line.substring(times + 3)), true);
            return;
        }
        int end = line.indexOf(')') + 1;
        String rest = line.substring(end).strip();
        boolean refused = rest.startsWith("!");
        if (!refused && !rest.startsWith("=")) throw new IllegalArgumentException(line);
        String[] due = rest.substring(1).strip().split(" : ");
        for (String text : choices(line.substring(0, end))) {
            due(text, make(call(text), !refused), number(due[0]));
            if (due.length > 1) fraction(text, due[1]);
        }
        if (refused) nothingChanged(line);
    }

    private long make(Call call, boolean keep) throws Exception {
        made.add(call);
        if (keep) kept.add(call);
        if (made.size() > MOST_CALLS) throw new IllegalArgumentException("more than " + MOST_CALLS + " calls");
        return call.on(web);
    }

    private void fraction(String text, String due) throws Exception {
        String[] parts = due.split("/");
        due("up() behind " + text, make(call("up()"), true), number(parts[0]));
        due("down() behind " + text, make(call("down()"), true), number(parts[1]));
    }

    private void due(String text, long got, long want) {
        if (got != want) fault(text + " answered " + got + ", due is " + want);
    }

    private static Call call(String text) {
        int open = text.indexOf('('), close = text.indexOf(')');
        Method method = FACE.get(text.substring(0, open));
        String inside = text.substring(open + 1, close).strip();
        String[] parts = inside.isEmpty() ? new String[0] : inside.split(",");
        Object[] numbers = new Object[parts.length];
        for (int i = 0; i < parts.length; i++) numbers[i] = (int) number(parts[i]);
        return new Call(text, method, numbers);
    }

    private static long number(String text) {
        String s = text.strip();
        return s.equals("LOW") ? Integer.MIN_VALUE : s.equals("HIGH") ? Integer.MAX_VALUE : Long.parseLong(s);
    }

    private static List<String> choices(String text) {
        int open = text.indexOf('{'), close = text.indexOf('}');
        if (open < 0) return List.of(text);
        List<String> all = new ArrayList<>();
        for (String choice : text.substring(open + 1, close).strip().split("\\s+"))
            all.addAll(choices(text.substring(0, open) + choice + text.substring(close + 1)));
        return all;
    }

    // ---- what a refused call must not change

    /** Holds the run with its refused calls against the same run without them, by all that can be asked. */
    private void nothingChanged(String line) throws Exception {
        List<String> with = lookAtAll(made), without = lookAtAll(kept);
        for (int i = 0; i < with.size() && i < without.size(); i++) {
            if (!with.get(i).equals(without.get(i))) {
                fault(line + " changed " + without.get(i) + " into " + with.get(i));
                return;
            }
        }
        if (with.size() != without.size()) fault(line + " changed how much there is to ask");
    }

    private static List<String> lookAtAll(List<Call> calls) throws Exception {
        Look now = new Look(calls);
        now.ask("up()");
        now.ask("down()");
        for (int x = -1; x < 13; x++) now.ask("at(" + x + ")");
        now.web();
        now.answers();
        now.forcesAndWorths();
        List<String> seen = new ArrayList<>(now.seen);
        long acts = call("count(3)").on(again(calls));
        for (long back : new long[] {1, acts}) {
            List<Call> undone = new ArrayList<>(calls);
            for (long i = 0; i < back; i++) undone.add(call("undo()"));
            Look then = new Look(undone);
            then.web();
            then.forcesAndWorths();
            seen.addAll(then.seen);
        }
        return seen;
    }

    private static BeliefWeb again(List<Call> calls) throws Exception {
        BeliefWeb w = new BeliefWeb();
        for (Call c : calls) c.on(w);
        return w;
    }

    /** Asks after a run of calls; makes the run anew on another object when the 512 calls are used up. */
    private static final class Look {
        private final List<Call> calls;
        private final List<String> seen = new ArrayList<>();
        private BeliefWeb w;
        private int used = MOST_CALLS;

        Look(List<Call> calls) {
            this.calls = calls;
            if (calls.size() + 4 > MOST_CALLS) throw new IllegalArgumentException("no call is left to ask with");
        }

        /** The first call's answer; what the others answer is looked at too. */
        long ask(String... texts) throws Exception {
            if (used + texts.length > MOST_CALLS) {
                w = again(calls);
                used = calls.size();
            }
            StringBuilder line = new StringBuilder();
            long first = 0;
            for (int i = 0; i < texts.length; i++) {
                long answer = call(texts[i]).on(w);
                first = i == 0 ? answer : first;
                line.append(texts[i]).append(" -> ").append(answer).append(' ');
            }
            used += texts.length;
            seen.add(line.toString());
            return first;
        }

        void told(String text) throws Exception {
            ask(text, "up()", "down()");
        }

        void web() throws Exception {
            long things = ask("count(0)");
            for (int what = 1; what < 4; what++) ask("count(" + what + ")");
            ask("sound()");
            for (int x = 0; x < things; x++) {
                for (int what = 0; what < 7; what++) ask("about(" + x + ", " + what + ")");
                for (int k = 0; k < 3; k++) ask("parent(" + x + ", " + k + ")");
                long rows = ask("about(" + x + ", 3)"), values = ask("about(" + x + ", 0)");
                for (int row = 0; row < rows; row++)
                    for (int v = 0; v < values; v++) ask("told(" + x + ", " + row + ", " + v + ")");
                for (int y = 0; y < x; y++) ask("apart(" + x + ", " + y + ")");
            }
        }

        void answers() throws Exception {
            ask("wholes()");
            told("chance()");
            told("likeliest(0)");
            told("likeliest(1)");
            long things = ask("count(0)"), options = ask("count(2)");
            for (int x = 0; x < things; x++) told("ask(" + x + ", 0)");
            for (int o = 0; o < options; o++) told("expected(" + o + ")");
        }

        /** These can be read only by setting them, each once. */
        void forcesAndWorths() throws Exception {
            long things = ask("count(0)"), options = ask("count(2)");
            for (int x = 0; x < things; x++) {
                long values = ask("about(" + x + ", 0)");
                for (int v = 0; v < values; v++) {
                    ask("force(" + x + ", " + v + ", 1)");
                    for (int o = 0; o < options; o++) ask("worth(" + o + ", " + x + ", " + v + ", 0)");
                }
            }
        }
    }
}
