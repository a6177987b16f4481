import java.util.ArrayList;
import java.util.List;

/**
 * A refused call changes nothing that later calls show, and neither does a question. Of two objects
 * with the same calls behind them one gets the call besides; then both are changed alike and asked
 * all there is to ask, in parts, so that none is used for more than 512 calls.
 */
public final class RefusedTest {
    private static final int NONE = Records.NONE;
    private static final int GAP = Records.GAP;
    private static final int FAR = Integer.MAX_VALUE;
    private static final int FAR_BELOW = Integer.MIN_VALUE;
    private static final int QUESTIONS_AT_ONCE = 250;
    private static final Due DUE = new Due();

    private interface Call {
        long on(BuoyReader x);
    }

    private record Told(String text, Call call) { }

    private record State(String text, Call made, List<Told> refused) { }

    private RefusedTest() { }

    public static void main(String[] args) {
        List<Told> questions = questions();
        for (State state : List.of(empty(), some(), full())) {
            List<Told> refused = new ArrayList<>(alwaysRefused());
            refused.addAll(state.refused);
            for (Told later : laters()) {
                for (int from = 0; from < questions.size(); from += QUESTIONS_AT_ONCE) {
                    List<Told> part = questions.subList(from, Math.min(from + QUESTIONS_AT_ONCE, questions.size()));
                    compare(state, refused, later, part);
                }
            }
        }
        DUE.end();
    }

    private static void compare(State state, List<Told> refused, Told later, List<Told> part) {
        long[] due = answers(state, null, later, part);
        for (Told one : refused) {
            differs(state, one, later, part, due, true);
        }
        for (Told one : asked()) {
            differs(state, one, later, part, due, false);
        }
    }

    private static void differs(State state, Told one, Told later, List<Told> part, long[] due, boolean isRefused) {
        long[] got = answers(state, one, later, part);
        String text = state.text + ", " + one.text;
        if (isRefused) {
            DUE.is(text, got[0], NONE);
        }
        for (int i = 1; i < due.length; i++) {
            String asked = i == 1 ? "" : part.get(i - 2).text;
            DUE.is(text + ", then " + later.text + " " + asked, got[i], due[i]);
        }
    }

    /** What the call answers, if there is one, what the later change answers, and all questions. */
    private static long[] answers(State state, Told one, Told later, List<Told> part) {
        BuoyReader x = new BuoyReader();
        state.made.on(x);
        long[] answers = new long[part.size() + 2];
        answers[0] = one == null ? 0 : one.call.on(x);
        answers[1] = later.call.on(x);
        for (int i = 0; i < part.size(); i++) {
            answers[i + 2] = part.get(i).call.on(x);
        }
        return answers;
    }

    /** So that a refused call answers NONE, be it by false. */
    private static long did(boolean is) {
        return is ? 1 : NONE;
    }

    // ---- the states

    private static State empty() {
        List<Told> refused = new ArrayList<>();
        refused.add(new Told("forget(1)", x -> x.forget(1)));
        refused.add(new Told("off()", x -> x.off()));
        refused.add(new Told("unname(1)", x -> x.unname(1)));
        refused.add(new Told("name(0, 1)", x -> did(x.name(0, 1))));
        refused.add(new Told("set(0, 2)", x -> did(x.set(0, 2))));
        refused.add(new Told("set(1, 0)", x -> did(x.set(1, 0))));
        refused.add(new Told("set(2, 20)", x -> did(x.set(2, 20))));
        refused.add(new Told("set(3, 2)", x -> did(x.set(3, 2))));
        refused.add(new Told("level(0, 0)", x -> did(x.level(0, 0))));
        refused.add(new Told("mark(0, 0)", x -> did(x.mark(0, 0))));
        return new State("empty", x -> 0, refused);
    }

    private static State some() {
        List<Told> refused = new ArrayList<>();
        refused.add(new Told("forget(48)", x -> x.forget(48)));
        refused.add(new Told("unname(4)", x -> x.unname(4)));
        refused.add(new Told("name, its TOP has one", x -> did(x.name(0, 40))));
        refused.add(new Told("name, another has it", x -> did(x.name(1, 3))));
        refused.add(new Told("name, no such WAVE", x -> did(x.name(x.count(2), 40))));
        refused.add(new Told("set(0, 1)", x -> did(x.set(0, 1))));
        refused.add(new Told("set(1, 1)", x -> did(x.set(1, 1))));
        refused.add(new Told("set(2, 12)", x -> did(x.set(2, 12))));
        refused.add(new Told("set(3, 1)", x -> did(x.set(3, 1))));
        refused.add(new Told("level(1, 0)", x -> did(x.level(1, 0))));
        refused.add(new Told("mark(1, 0)", x -> did(x.mark(1, 0))));
        return new State("some", RefusedTest::makeSome, refused);
    }

    private static long makeSome(BuoyReader x) {
        Records.come(x, GAP, -9, 12, 4, GAP, -30, 41, -7, 8, -6, 90, 33, GAP, GAP, -50, 4, 9, -21, 17, -8, 5, GAP, -3, 44,
            GAP, GAP, GAP, -12, 13, 26, -14, 9, -9, 18, GAP, 3, -40, 22, -1, 2, -20, 6, -6, 5, -5, 7, GAP);
        x.set(0, 1);
        x.set(1, 1);
        x.set(2, 12);
        x.set(3, 1);
        x.mark(1, 0);
        x.level(1, 0);
        x.lens(3, 15);
        x.lens(1, 70);
        x.name(0, 3);
        x.name(2, 999);
        return x.count(0);
    }

    private static State full() {
        List<Told> refused = new ArrayList<>();
        refused.add(new Told("heave(1)", x -> x.heave(1)));
        refused.add(new Told("heave(GAP)", x -> x.heave(GAP)));
        refused.add(new Told("four(0)", x -> x.four(0)));
        refused.add(new Told("forget(601)", x -> x.forget(601)));
        for (int kind = 0; kind < 5; kind++) {
            int k = kind;
            refused.add(new Told("a fifth LENS of kind " + k, x -> x.lens(k, k == 2 ? 0 : 1)));
        }
        refused.add(new Told("a 21st NAME", x -> did(x.name(25, 40))));
        refused.add(new Told("set(1, 500)", x -> did(x.set(1, 500))));
        refused.add(new Told("level(2, 0)", x -> did(x.level(2, 0))));
        refused.add(new Told("mark(3, 0)", x -> did(x.mark(3, 0))));
        return new State("full", RefusedTest::makeFull, refused);
    }

    private static long makeFull(BuoyReader x) {
        int[] values = new int[Records.FULL];
        for (int i = 0; i < values.length; i++) {
            values[i] = i % 97 == 50 ? GAP : (i % 2 == 0 ? -1 : 1) * (600 + i * 37 % 911);
        }
        Records.come(x, values);
        for (int w = 0; w < 20; w++) {
            x.name(w, 1 + w);
        }
        x.lens(3, 20);
        x.lens(2, 0);
        x.lens(1, 2500);
        x.lens(0, 1);
        x.set(1, 500);
        x.level(2, 0);
        x.mark(3, 0);
        return x.count(0);
    }

    // ---- the calls

    private static List<Told> alwaysRefused() {
        List<Told> all = new ArrayList<>();
        for (int v : new int[] {10000, -10000, GAP + 1, GAP - 1, FAR, FAR_BELOW}) {
            all.add(new Told("heave(" + v + ")", x -> x.heave(v)));
        }
        for (int v : new int[] {10000, -10000, GAP + 1, 32767}) {
            all.add(new Told("four, " + v + " first", x -> x.four(Records.pack(v, 1, -1, 2))));
            all.add(new Told("four, " + v + " second", x -> x.four(Records.pack(1, v, -1, 2))));
            all.add(new Told("four, " + v + " third", x -> x.four(Records.pack(1, -1, v, 2))));
            all.add(new Told("four, " + v + " last", x -> x.four(Records.pack(1, -1, 2, v))));
        }
        for (int n : new int[] {-1, 601, FAR, FAR_BELOW}) {
            all.add(new Told("forget(" + n + ")", x -> x.forget(n)));
        }
        int[][] sets = {{0, -1}, {0, 21}, {1, -1}, {1, 501}, {2, 9}, {2, 51}, {3, 0}, {3, 10}, {4, 5}, {-1, 5}, {FAR, 5}};
        for (int[] s : sets) {
            all.add(new Told("set(" + s[0] + ", " + s[1] + ")", x -> did(x.set(s[0], s[1]))));
        }
        int[][] levels = {{0, 10000}, {0, -10000}, {1, 5}, {1, -1}, {2, 5}, {3, 0}, {-1, 0}, {FAR_BELOW, 0}};
        for (int[] l : levels) {
            all.add(new Told("level(" + l[0] + ", " + l[1] + ")", x -> did(x.level(l[0], l[1]))));
        }
        int[][] marks = {{0, -1}, {0, 100000}, {1, 5}, {2, -5}, {3, 5}, {4, 0}, {-1, 0}, {FAR, 0}};
        for (int[] m : marks) {
            all.add(new Told("mark(" + m[0] + ", " + m[1] + ")", x -> did(x.mark(m[0], m[1]))));
        }
        int[][] lenses = {{0, 0}, {0, 6}, {1, -1}, {1, 10000}, {2, 1}, {2, -1}, {3, 0}, {3, 31}, {4, 0}, {4, 10}, {5, 1}, {-1, 1}};
        for (int[] l : lenses) {
            all.add(new Told("lens(" + l[0] + ", " + l[1] + ")", x -> x.lens(l[0], l[1])));
        }
        int[][] names = {{-1, 40}, {300, 40}, {FAR, 40}, {0, 0}, {0, 1000}, {0, -1}, {0, FAR_BELOW}, {1, 0}, {1, 1000}};
        for (int[] n : names) {
            all.add(new Told("name(" + n[0] + ", " + n[1] + ")", x -> did(x.name(n[0], n[1]))));
        }
        for (int n : new int[] {0, -1, 1000, 77, FAR_BELOW}) {
            all.add(new Told("unname(" + n + ")", x -> x.unname(n)));
        }
        return all;
    }

    /** Calls that answer without changing anything. */
    private static List<Told> asked() {
        List<Told> all = new ArrayList<>();
        all.add(new Told("forget(0)", x -> x.forget(0)));
        all.add(new Told("count(2)", x -> x.count(2)));
        all.add(new Told("sample(1, 2)", x -> x.sample(1, 2)));
        all.add(new Told("through(1, 0)", x -> x.through(1, 0)));
        all.add(new Told("stretch(0, 2)", x -> x.stretch(0, 2)));
        all.add(new Told("wave(0, 9)", x -> x.wave(0, 9)));
        all.add(new Told("ranked(0)", x -> x.ranked(0)));
        all.add(new Told("highest(3, 0)", x -> x.highest(3, 0)));
        all.add(new Told("freak(0)", x -> x.freak(0)));
        all.add(new Told("group(0, 2)", x -> x.group(0, 2)));
        all.add(new Told("energy(0)", x -> x.energy(0)));
        all.add(new Told("named(3)", x -> x.named(3)));
        for (int band : new int[] {-1, 0, 1, 499, 500, 501}) {
            all.add(new Told("would(" + band + ")", x -> x.would(band)));
        }
        for (int n : new int[] {-1, 0, 1, 300}) {
            all.add(new Told("quiet(" + n + ")", x -> x.quiet(n)));
            all.add(new Told("gone(" + n + ")", x -> x.gone(n)));
        }
        return all;
    }

    /** What both objects are told ahead of the questions: nothing, or a change. */
    private static List<Told> laters() {
        List<Told> all = new ArrayList<>();
        all.add(new Told("nothing", x -> 0));
        all.add(new Told("forget(2)", x -> x.forget(2)));
        all.add(new Told("off()", x -> x.off()));
        all.add(new Told("unname(3)", x -> x.unname(3)));
        all.add(new Told("name(1, 40)", x -> did(x.name(1, 40))));
        all.add(new Told("lens(4, 1)", x -> x.lens(4, 1)));
        all.add(new Told("two GAPS and a HEAVE", x -> x.heave(GAP) + 1000L * x.heave(GAP) + 1000000L * x.heave(6)));
        all.add(new Told("another reading", x -> did(x.set(0, 20)) + 2 * did(x.set(1, 0)) + 4 * did(x.level(0, 0))));
        return all;
    }

    private static void ask(List<Told> all, String name, int firsts, int seconds, Pair pair) {
        for (int a = -1; a <= firsts; a++) {
            for (int b = 0; b < seconds; b++) {
                int first = a;
                int second = b;
                all.add(new Told(name + "(" + a + ", " + b + ")", x -> pair.on(x, first, second)));
            }
        }
    }

    private interface Pair {
        long on(BuoyReader x, int a, int b);
    }

    private static List<Told> questions() {
        List<Told> all = new ArrayList<>();
        ask(all, "count", 16, 1, (x, a, b) -> x.count(a));
        ask(all, "sample", 50, 6, (x, a, b) -> x.sample(a, b));
        ask(all, "sample 590 and", 10, 6, (x, a, b) -> x.sample(590 + a, b));
        ask(all, "through", 50, 5, (x, a, b) -> x.through(a, b));
        ask(all, "stretch", 9, 8, (x, a, b) -> x.stretch(a, b));
        ask(all, "wave", 22, 12, (x, a, b) -> x.wave(a, b));
        ask(all, "ranked", 22, 1, (x, a, b) -> x.ranked(a));
        ask(all, "highest", 11, 5, (x, a, b) -> x.highest(a, b));
        ask(all, "freak", 4, 1, (x, a, b) -> x.freak(a));
        ask(all, "group", 6, 5, (x, a, b) -> x.group(a, b));
        ask(all, "energy", 6, 1, (x, a, b) -> x.energy(a));
        ask(all, "named", 41, 1, (x, a, b) -> x.named(a));
        ask(all, "named 990 and", 10, 1, (x, a, b) -> x.named(990 + a));
        ask(all, "would", 12, 1, (x, a, b) -> x.would(a));
        ask(all, "would 490 and", 11, 1, (x, a, b) -> x.would(490 + a));
        ask(all, "quiet", 20, 1, (x, a, b) -> x.quiet(a));
        ask(all, "gone", 20, 1, (x, a, b) -> x.gone(a));
        return all;
    }
}
