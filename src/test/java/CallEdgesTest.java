/**
 * The edges that the document's promises 1 to 25 name, a test of its own for each sentence, told by
 * the promise's number and the sentence's words. No object is used for more than 512 calls.
 */
public final class CallEdgesTest {
    private static final int NONE = Records.NONE;
    private static final int GAP = Records.GAP;
    /** Numbers that are no what, part, kind, SAMPLE, WAVE or NAME of any call. */
    private static final int[] FAR = {-1, -2, 100000, 65536, Integer.MAX_VALUE, Integer.MIN_VALUE};
    private static final Due DUE = new Due();
    private static String sentence = "";

    private CallEdgesTest() { }

    public static void main(String[] args) {
        record();
        settings();
        lenses();
        count();
        sample();
        through();
        stretch();
        wave();
        ranked();
        highest();
        freak();
        group();
        energy();
        name();
        unname();
        named();
        would();
        quiet();
        gone();
        changesShow();
        nothingIsLeftBehind();
        DUE.end();
    }

    private static void on(int promise, String words) {
        sentence = promise + " \"" + words + "\": ";
    }

    private static void is(String what, long got, long want) {
        DUE.is(sentence + what, got, want);
    }

    private static void is(String what, boolean got, boolean want) {
        DUE.is(sentence + what, got, want);
    }

    private static BuoyReader of(int... values) {
        return Records.of(values);
    }

    private static BuoyReader heights(int... heights) {
        return Records.heights(heights);
    }

    private static BuoyReader full(int... pattern) {
        return of(Records.row(Records.FULL, pattern));
    }

    private static long pack(int a, int b, int c, int d) {
        return Records.pack(a, b, c, d);
    }

    // ---- 1 to 4: the record

    private static void record() {
        newObject();
        heaveComes();
        heaveRefused();
        fourCome();
        fourRefused();
        firstAreGone();
        withTheirNames();
        forgetRefused();
    }

    private static void newObject() {
        on(1, "No SAMPLES, no LENSES.");
        BuoyReader x = new BuoyReader();
        is("SAMPLES", x.count(0), 0);
        is("LENSES", x.count(5), 0);
        is("no first SAMPLE", x.sample(0, 0), NONE);
        is("no first SAMPLE behind none", x.through(0, 0), GAP);
        is("none to forget", x.forget(1), NONE);
        is("none to take off", x.off(), NONE);
        is("no NAMES", x.count(6), 0);
    }

    private static void heaveComes() {
        on(2, "A HEAVE comes, or GAP: how many SAMPLES there are.");
        BuoyReader x = new BuoyReader();
        is("the first", x.heave(-9999), 1);
        is("the second", x.heave(9999), 2);
        is("a GAP", x.heave(GAP), 3);
        is("behind the others", x.sample(2, 0), GAP);
        BuoyReader y = of(Records.row(599, 1));
        is("the 600th", y.heave(GAP), 600);
    }

    private static void heaveRefused() {
        on(2, "NONE: another number, there are 600.");
        BuoyReader x = of(4);
        is("10000", x.heave(10000), NONE);
        is("-10000", x.heave(-10000), NONE);
        is("one above GAP", x.heave(-32767), NONE);
        is("one below GAP", x.heave(-32769), NONE);
        is("GAP without its sign", x.heave(32768), NONE);
        is("the next comes behind the first", x.heave(5), 2);
        BuoyReader y = full(1);
        is("the 601st", y.heave(1), NONE);
        is("another number as the 601st", y.heave(10000), NONE);
        y.forget(1);
        is("room for one", y.heave(2), 600);
        is("for one alone", y.heave(3), NONE);
        is("the last", y.sample(599, 0), 2);
    }

    private static void fourCome() {
        on(3, "Four come, of 16 bits each with sign, the highest first, a HEAVE or GAP each: how many there are.");
        BuoyReader x = new BuoyReader();
        is("the ends", x.four(pack(-9999, 9999, GAP, -1)), 4);
        is("all bits set", x.four(-1L), 8);
        is("no bits set", x.four(0L), 12);
        is("the highest bit alone", x.four(Long.MIN_VALUE), 16);
        is("the lowest bit alone", x.four(1L), 20);
        int[] due = {-9999, 9999, GAP, -1, -1, -1, -1, -1, 0, 0, 0, 0, GAP, 0, 0, 0, 0, 0, 0, 1};
        for (int i = 0; i < due.length; i++) {
            is("SAMPLE " + i, x.sample(i, 0), due[i]);
        }
    }

    private static void fourRefused() {
        on(3, "NONE, and none come: one is another number, there would be more than 600.");
        BuoyReader x = of(4);
        int[] others = {10000, -10000, -32767, 32767};
        for (int v : others) {
            is(v + " first", x.four(pack(v, 1, 2, 3)), NONE);
            is(v + " second", x.four(pack(1, v, 2, 3)), NONE);
            is(v + " third", x.four(pack(1, 2, v, 3)), NONE);
            is(v + " last", x.four(pack(1, 2, 3, v)), NONE);
        }
        is("the greatest long", x.four(Long.MAX_VALUE), NONE);
        is("none came", x.count(0), 1);
        is("none behind the first", x.sample(1, 0), NONE);
        is("the next", x.heave(7), 2);
        for (int some = 595; some <= 600; some++) {
            BuoyReader y = of(Records.row(some, 1));
            boolean room = some <= 596;
            is("behind " + some, y.four(pack(2, 2, 2, 2)), room ? some + 4 : NONE);
            is("how many behind " + some, y.count(0), room ? some + 4 : some);
            is("the last behind " + some, y.sample(y.count(0) - 1, 0), room ? 2 : 1);
        }
    }

    private static void firstAreGone() {
        on(4, "The first n SAMPLES are gone, with their NAMES; the others come up: how many are left.");
        BuoyReader x = of(1, 2, 3, 4, 5);
        is("none", x.forget(0), 5);
        is("the first is still there", x.sample(0, 0), 1);
        is("one", x.forget(1), 4);
        is("the second came up", x.sample(0, 0), 2);
        is("so did the last", x.sample(3, 0), 5);
        is("none behind it", x.sample(4, 0), NONE);
        is("all but one", x.forget(3), 1);
        is("the last", x.sample(0, 0), 5);
        is("all", x.forget(1), 0);
        is("none is left", x.sample(0, 0), NONE);
        is("none of none", x.forget(0), 0);
        BuoyReader y = full(1, 2, 3);
        is("600 of 600", y.forget(600), 0);
        is("one comes", y.heave(9), 1);
        is("it is the first", y.sample(0, 0), 9);
        is("alone", y.sample(1, 0), NONE);
    }

    private static void withTheirNames() {
        on(4, "with their NAMES");
        BuoyReader x = heights(5, 5, 5, 5);
        x.name(0, 10);
        x.name(1, 11);
        x.name(2, 12);
        // The TOPS are the SAMPLES 1, 3, 5.
        is("forget 3", x.forget(3), 7);
        is("the NAME of the last forgotten one", x.named(10), NONE);
        is("is gone", x.unname(10), NONE);
        is("the NAME of the first that is left", x.sample(0, 5), 11);
        is("the next", x.sample(2, 5), 12);
        is("between them", x.sample(1, 5), NONE);
        is("two are left", x.count(6), 2);
        is("a gone NAME can be given again", x.name(1, 10), true);
        is("forget all", x.forget(7), 0);
        is("none is left", x.count(6), 0);
        Records.come(x, -1, 4, -1, 4);
        is("new SAMPLES have none", x.sample(1, 5), NONE);
        is("11 is free", x.name(0, 11), true);
    }

    private static void forgetRefused() {
        on(4, "NONE: there are not so many, n below 0.");
        BuoyReader x = of(1, 2, 3);
        is("one more than there are", x.forget(4), NONE);
        is("one below 0", x.forget(-1), NONE);
        for (int n : FAR) {
            is("forget(" + n + ")", x.forget(n), NONE);
        }
        is("all are there", x.count(0), 3);
        is("the first too", x.sample(0, 0), 1);
        is("one of none", new BuoyReader().forget(1), NONE);
        is("601 of 600", full(1).forget(601), NONE);
    }

    // ---- 5 to 7: numbers, RULE, MARK

    private static void settings() {
        setTrue();
        setFalse();
        levelTrue();
        levelFalse();
        markTrue();
        markFalse();
    }

    private static void setTrue() {
        on(5, "What 0: MEND, 1: BAND, 2: FACTOR, 3: LEAST is another number: true.");
        int[] least = {0, 0, 10, 1};
        int[] greatest = {20, 500, 50, 9};
        int[] first = {2, 0, 20, 2};
        for (int what = 0; what < 4; what++) {
            BuoyReader x = new BuoyReader();
            is("what " + what + ", the greatest", x.set(what, greatest[what]), true);
            is("what " + what + ", counted", x.count(7 + what), greatest[what]);
            is("what " + what + ", the least", x.set(what, least[what]), true);
            is("what " + what + ", counted", x.count(7 + what), least[what]);
            for (int other = 0; other < 4; other++) {
                is("what " + what + ", " + other + " stays", x.count(7 + other), other == what ? least[what] : first[other]);
            }
        }
    }

    private static void setFalse() {
        on(5, "false: it is that, it can't be, another what.");
        int[] least = {0, 0, 10, 1};
        int[] greatest = {20, 500, 50, 9};
        int[] first = {2, 0, 20, 2};
        BuoyReader x = new BuoyReader();
        for (int what = 0; what < 4; what++) {
            is("what " + what + ", it is that", x.set(what, first[what]), false);
            is("what " + what + ", too small", x.set(what, least[what] - 1), false);
            is("what " + what + ", too large", x.set(what, greatest[what] + 1), false);
            for (int v : FAR) {
                is("what " + what + ", " + v, x.set(what, v), false);
            }
        }
        // 15 can be MEND, BAND and FACTOR, 5 all four.
        is("what 4", x.set(4, 5), false);
        is("what 4", x.set(4, 15), false);
        for (int what : FAR) {
            is("what " + what, x.set(what, 5), false);
            is("what " + what, x.set(what, 15), false);
        }
        for (int what = 0; what < 4; what++) {
            is("what " + what + " stays", x.count(7 + what), first[what]);
        }
    }

    private static void levelTrue() {
        on(6, "RULE, and the number told (RULE 0; else 0): true.");
        BuoyReader x = of(3, 4, 9, 10);
        is("RULE 0, 9999", x.level(0, 9999), true);
        is("LEVEL", x.stretch(0, 2), 9999);
        is("RULE 0, -9999", x.level(0, -9999), true);
        is("LEVEL", x.stretch(0, 2), -9999);
        is("RULE 1", x.level(1, 0), true);
        is("it is 1", x.count(11), 1);
        is("LEVEL", x.stretch(0, 2), 6);
        is("RULE 2", x.level(2, 0), true);
        is("it is 2", x.count(11), 2);
        is("LEVEL", x.stretch(0, 2), 4);
        is("RULE 0, the number of before", x.level(0, -9999), true);
        is("it is 0", x.count(11), 0);
        is("RULE 1 again", x.level(1, 0), true);
        is("RULE 0, 0", x.level(0, 0), true);
        is("LEVEL", x.stretch(0, 2), 0);
    }

    private static void levelFalse() {
        on(6, "false: likewise.");
        BuoyReader x = of(3, 4, 9, 10);
        is("it is that at first", x.level(0, 0), false);
        is("RULE 0, 10000", x.level(0, 10000), false);
        is("RULE 0, -10000", x.level(0, -10000), false);
        is("RULE 1, 1", x.level(1, 1), false);
        is("RULE 1, -1", x.level(1, -1), false);
        is("RULE 2, 1", x.level(2, 1), false);
        is("RULE 2, -1", x.level(2, -1), false);
        is("RULE 3", x.level(3, 0), false);
        for (int rule : FAR) {
            is("RULE " + rule, x.level(rule, 0), false);
        }
        is("RULE stays", x.count(11), 0);
        is("LEVEL stays", x.stretch(0, 2), 0);
        x.level(1, 0);
        is("it is RULE 1", x.level(1, 0), false);
        is("RULE 1 with another number", x.level(1, 5), false);
        is("RULE 1 stays", x.stretch(0, 2), 6);
        x.level(0, 7);
        is("it is 7", x.level(0, 7), false);
    }

    private static void markTrue() {
        on(7, "MARK, and the number told (MARK 0; else 0): true.");
        BuoyReader x = heights(4, 5);
        is("MARK 0, 99999", x.mark(0, 99999), true);
        is("none is HIGH", x.wave(1, 9), 0);
        for (int mark = 1; mark <= 3; mark++) {
            is("MARK " + mark, x.mark(mark, 0), true);
            is("it is " + mark, x.count(12), mark);
        }
        is("MARK 0, the number of before", x.mark(0, 99999), true);
        is("it is 0", x.count(12), 0);
        is("none is HIGH", x.wave(1, 9), 0);
        is("MARK 3 again", x.mark(3, 0), true);
        is("MARK 0, 0", x.mark(0, 0), true);
        is("all are HIGH", x.wave(0, 9), 1);
    }

    private static void markFalse() {
        on(7, "false: likewise.");
        BuoyReader x = heights(4, 5);
        is("it is that at first", x.mark(0, 0), false);
        is("MARK 0, -1", x.mark(0, -1), false);
        is("MARK 0, 100000", x.mark(0, 100000), false);
        for (int mark = 1; mark <= 3; mark++) {
            is("MARK " + mark + ", 1", x.mark(mark, 1), false);
            is("MARK " + mark + ", -1", x.mark(mark, -1), false);
        }
        is("MARK 4", x.mark(4, 0), false);
        for (int mark : FAR) {
            is("MARK " + mark, x.mark(mark, 0), false);
        }
        is("MARK stays", x.count(12), 0);
        is("all are HIGH still", x.wave(0, 9), 1);
        x.mark(2, 0);
        is("it is MARK 2", x.mark(2, 0), false);
        is("MARK 2 with another number", x.mark(2, 5), false);
        x.mark(0, 5);
        is("it is 5", x.mark(0, 5), false);
    }

    // ---- 8 and 9: LENSES

    private static void lenses() {
        lensComes();
        lensRefused();
        lensGoes();
        noneToGo();
    }

    private static void lensComes() {
        on(8, "A LENS comes behind the others: how many there are.");
        BuoyReader x = of(100);
        is("the first", x.lens(3, 5), 1);
        is("the second", x.lens(1, 30), 2);
        is("the third", x.lens(2, 0), 3);
        is("the fourth", x.lens(3, 11), 4);
        int[] due = {100, 50, 30, -30, -33};
        for (int many = 0; many < due.length; many++) {
            is("behind " + many, x.through(0, many), due[many]);
        }
    }

    private static void lensRefused() {
        on(8, "NONE: there are 4, no such kind, another n.");
        BuoyReader x = of(100);
        is("kind 5", x.lens(5, 1), NONE);
        is("kind 5", x.lens(5, 0), NONE);
        for (int kind : FAR) {
            is("kind " + kind, x.lens(kind, 1), NONE);
            is("kind " + kind, x.lens(kind, 0), NONE);
        }
        int[] least = {1, 0, 0, 1, 1};
        int[] greatest = {5, 9999, 0, 30, 9};
        for (int kind = 0; kind < 5; kind++) {
            is("kind " + kind + ", n too small", x.lens(kind, least[kind] - 1), NONE);
            is("kind " + kind + ", n too large", x.lens(kind, greatest[kind] + 1), NONE);
        }
        is("none came", x.count(5), 0);
        is("SEEN as it came", x.sample(0, 2), 100);
        for (int i = 1; i <= 4; i++) {
            is("lens " + i, x.lens(0, 1), i);
        }
        for (int kind = 0; kind < 5; kind++) {
            is("a fifth, kind " + kind, x.lens(kind, least[kind]), NONE);
        }
        is("there are 4", x.count(5), 4);
        x.off();
        is("room for one", x.lens(2, 0), 4);
        is("it is the last", x.sample(0, 2), -100);
    }

    private static void lensGoes() {
        on(9, "The last LENS goes: how many are left.");
        BuoyReader x = of(100);
        x.lens(3, 5);
        x.lens(1, 30);
        x.lens(2, 0);
        x.lens(3, 11);
        int[] due = {100, 50, 30, -30};
        for (int left = 3; left >= 0; left--) {
            is("off", x.off(), left);
            is("SEEN behind " + left, x.sample(0, 2), due[left]);
            is("none behind more", x.through(0, left + 1), GAP);
        }
    }

    private static void noneToGo() {
        on(9, "NONE: there are none.");
        BuoyReader x = of(100);
        is("at first", x.off(), NONE);
        x.lens(2, 0);
        is("one goes", x.off(), 0);
        is("then none", x.off(), NONE);
        is("count", x.count(5), 0);
        is("one comes", x.lens(2, 0), 1);
    }

    // ---- 10: count

    private static void count() {
        on(10, "What 0: SAMPLES, 1: STRETCHES, 2: WAVES, 3: FREAKS, 4: GROUPS, 5: LENSES, 6: NAMES, 7: MEND");
        counts("empty", new BuoyReader(), 0, 0, 0, 0, 0, 0, 0, 2, 0, 20, 2, 0, 0, 0, 0, 0);
        counts("a GAP", of(GAP), 1, 0, 0, 0, 0, 0, 0, 2, 0, 20, 2, 0, 0, 1, 0, 0);
        counts("all GAPS", full(GAP), 600, 0, 0, 0, 0, 0, 0, 2, 0, 20, 2, 0, 0, 600, 0, 0);
        counts("all WAVES", full(-1, 1), 600, 1, 299, 0, 1, 0, 0, 2, 0, 20, 2, 0, 0, 0, 0, 598);
        BuoyReader parted = full(-1, 1, -1, 1, GAP);
        // By MEND 2 the GAPS are MENDED to 0, but for the last: of five SAMPLES two are CROSSINGS.
        counts("GAPS between", parted, 600, 1, 239, 0, 1, 0, 0, 2, 0, 20, 2, 0, 0, 120, 119, 597);
        parted.set(0, 0);
        counts("STRETCHES of four", parted, 600, 120, 120, 0, 0, 0, 0, 0, 0, 20, 2, 0, 0, 120, 0, 240);
        parted.set(3, 1);
        counts("GROUPS of one", parted, 600, 120, 120, 0, 120, 0, 0, 0, 0, 20, 1, 0, 0, 120, 0, 240);
        countsOfAll();
        on(10, "NONE for another what.");
        for (int what : FAR) {
            is("count(" + what + ")", parted.count(what), NONE);
            is("count(" + what + ") of none", new BuoyReader().count(what), NONE);
        }
        is("count(16)", parted.count(16), NONE);
        is("count(16) of none", new BuoyReader().count(16), NONE);
    }

    /** Each of the sixteen is once another number than at first. */
    private static void countsOfAll() {
        on(10, "8: BAND, 9: FACTOR, 10: LEAST, 11: RULE, 12: MARK, 13: GAPS, 14: GAPS that are MENDED, 15: SAMPLES of all WAVES.");
        int[] waves = {-9, 40, -9, 9, -9, 30, -9, 8, -9, 7, -9, 7, -9, 7, -9, 7, -9, 7, -9, 7};
        int[] few = {GAP, GAP, GAP, GAP, GAP, -9, GAP, -9};
        BuoyReader x = of(Records.join(waves, few));
        x.set(0, 4);
        x.set(1, 6);
        x.set(2, 10);
        x.set(3, 1);
        x.level(2, 0);
        x.mark(1, 0);
        x.lens(1, 100);
        // LEVEL is -9 by RULE 2, so that nothing is below it; about 0 there are nine WAVES.
        counts("about -9", x, 28, 2, 0, 0, 0, 1, 0, 4, 6, 10, 1, 2, 1, 6, 1, 0);
        x.level(0, 0);
        x.name(0, 5);
        x.name(1, 6);
        x.name(2, 7);
        counts("about 0", x, 28, 2, 9, 2, 2, 1, 3, 4, 6, 10, 1, 0, 1, 6, 1, 18);
        x.level(1, 0);
        is("RULE 1", x.count(11), 1);
    }

    private static void counts(String what, BuoyReader x, int... due) {
        for (int i = 0; i < due.length; i++) {
            is(what + ", count(" + i + ")", x.count(i), due[i]);
        }
    }

    // ---- 11 and 12: SAMPLES

    private static void sample() {
        on(11, "Of a SAMPLE, what 0: as it came (HEAVE or GAP), 1: MENDED (GAP if it is REFUSED), 2: as SEEN (GAP: REFUSED)");
        BuoyReader x = of(-9999, GAP, 9999, GAP, GAP, GAP, 5);
        x.lens(3, 20);
        samples("first", x, 0, -9999, -9999, -19998, 0, NONE, NONE);
        samples("MENDED", x, 1, GAP, 0, 0, 0, NONE, NONE);
        samples("a HEAVE", x, 2, 9999, 9999, 19998, 0, NONE, NONE);
        samples("REFUSED", x, 3, GAP, GAP, GAP, NONE, NONE, NONE);
        samples("last", x, 6, 5, 5, 10, 1, NONE, NONE);
        on(11, "3: its STRETCH (NONE), 4: its WAVE (NONE), 5: its NAME (NONE)");
        BuoyReader y = heights(5, 6);
        y.name(1, 999);
        samples("in the HEAD", y, 0, -1, -1, -1, 0, NONE, NONE);
        samples("the first of a WAVE", y, 1, 4, 4, 4, 0, 0, NONE);
        samples("the last of a WAVE", y, 2, -1, -1, -1, 0, 0, NONE);
        samples("with a NAME", y, 3, 5, 5, 5, 0, 1, 999);
        samples("in the TAIL", y, 5, 1, 1, 1, 0, NONE, NONE);
        on(11, "NONE: there is none such, another what.");
        for (int what = -1; what <= 6; what++) {
            is("behind the last, what " + what, y.sample(6, what), NONE);
            is("of none, what " + what, new BuoyReader().sample(0, what), NONE);
            for (int sample : FAR) {
                is("sample(" + sample + ", " + what + ")", y.sample(sample, what), NONE);
            }
        }
        is("what 6", y.sample(3, 6), NONE);
        for (int what : FAR) {
            is("what " + what, y.sample(3, what), NONE);
        }
        BuoyReader great = full(7);
        is("the 600th", great.sample(599, 1), 7);
        is("the 601st", great.sample(600, 1), NONE);
    }

    private static void samples(String what, BuoyReader x, int sample, int... due) {
        for (int i = 0; i < due.length; i++) {
            is(what + ", sample(" + sample + ", " + i + ")", x.sample(sample, i), due[i]);
        }
    }

    private static void through() {
        on(12, "A SAMPLE as it is behind so many LENSES (0 to all).");
        BuoyReader x = of(10, GAP, 30, GAP, GAP, GAP, 5);
        is("without any, behind 0", x.through(0, 0), 10);
        is("without any, behind 1", x.through(0, 1), GAP);
        x.lens(2, 0);
        x.lens(3, 20);
        x.lens(1, 15);
        x.lens(3, 1);
        int[] due = {20, -20, -40, -15, -2};
        for (int many = 0; many < due.length; many++) {
            is("behind " + many, x.through(1, many), due[many]);
        }
        is("behind one more than all", x.through(1, 5), GAP);
        is("behind -1", x.through(1, -1), GAP);
        on(12, "GAP: it is REFUSED; there are none such.");
        for (int many = -1; many <= 5; many++) {
            is("REFUSED, behind " + many, x.through(3, many), GAP);
            is("none such, behind " + many, x.through(7, many), GAP);
            is("of none, behind " + many, new BuoyReader().through(0, many), GAP);
        }
        for (int far : FAR) {
            is("SAMPLE " + far, x.through(far, 0), GAP);
            is("behind " + far, x.through(0, far), GAP);
        }
        is("the 600th", full(7).through(599, 0), 7);
        is("the 601st", full(7).through(600, 0), GAP);
    }

    // ---- 13: stretch

    private static void stretch() {
        on(13, "Of a STRETCH, what 0: its first SAMPLE, 1: SAMPLES, 2: LEVEL, 3: WAVES, 4: SAMPLES of its HEAD");
        stretches("of one SAMPLE", of(GAP, 7), 0, 1, 1, 0, 0, 1, 0, 7, 7);
        stretches("of 600", full(-1, 1), 0, 0, 600, 0, 299, 1, 1, 1, -1);
        stretches("HEAD and TAIL", of(3, -2, 5, 6, -1, 2), 0, 0, 6, 0, 1, 2, 1, 6, -2);
        on(13, "5: of its TAIL (0 without CROSSINGS), 6: its greatest SEEN, 7: its least");
        stretches("without CROSSINGS", of(9999, -9999), 0, 0, 2, 0, 0, 2, 0, 9999, -9999);
        stretches("one CROSSING", of(-4, 5, 5), 0, 0, 3, 0, 0, 1, 2, 5, -4);
        BuoyReader turned = of(9999, -9998, GAP, GAP, GAP, -3);
        turned.lens(2, 0);
        stretches("SEEN", turned, 0, 0, 2, 0, 0, 1, 1, 9998, -9999);
        stretches("SEEN, by itself", turned, 1, 5, 1, 0, 0, 1, 0, 3, 3);
        BuoyReader second = of(-1, 1, -1, 1, GAP, GAP, GAP, 0, 0, -1, 1, -1, 1, -1, 1, 1);
        stretches("behind another", second, 1, 7, 9, 0, 2, 3, 2, 1, -1);
        on(13, "NONE: there is none such, another what.");
        BuoyReader x = of(3, 4);
        for (int what = -1; what <= 8; what++) {
            is("the second, what " + what, x.stretch(1, what), NONE);
            is("of none, what " + what, new BuoyReader().stretch(0, what), NONE);
            is("of GAPS, what " + what, of(GAP, GAP).stretch(0, what), NONE);
            for (int far : FAR) {
                is("stretch(" + far + ", " + what + ")", x.stretch(far, what), NONE);
            }
        }
        is("what 8", x.stretch(0, 8), NONE);
        for (int what : FAR) {
            is("what " + what, x.stretch(0, what), NONE);
        }
    }

    private static void stretches(String what, BuoyReader x, int stretch, int... due) {
        for (int i = 0; i < due.length; i++) {
            is(what + ", stretch(" + stretch + ", " + i + ")", x.stretch(stretch, i), due[i]);
        }
    }

    // ---- 14 and 15: WAVES, RANKS

    private static void wave() {
        on(14, "Of a WAVE, what 0: its first SAMPLE, 1: PERIOD, 2: HEIGHT, 3: CREST, 4: TROUGH, 5: TOP, 6: its STRETCH, 7: RANK");
        waves("the least", of(-1, 1, -1, 1), 0, 1, 2, 2, 1, 1, 1, 0, 0, 0, 1, NONE, NONE);
        BuoyReader x = of(-1, 1, -1, 1, GAP, GAP, GAP, -2, 3, 4, 0, -3, 5);
        x.name(1, 8);
        waves("behind another STRETCH", x, 1, 8, 4, 7, 4, 3, 9, 1, 0, 0, 1, NONE, 8);
        waves("the other one", x, 0, 1, 2, 2, 1, 1, 1, 0, 1, 0, 1, NONE, NONE);
        on(14, "8: 1 it is a FREAK, 0 not, 9: 1 it is HIGH, 0 not, 10: its GROUP (NONE), 11: the NAME it bears (NONE)");
        BuoyReader y = heights(2, 30, 8, 2, 2, 2);
        y.set(2, 10);
        y.mark(0, 7);
        is("a FREAK", y.wave(1, 8), 1);
        is("none", y.wave(2, 8), 0);
        is("HIGH", y.wave(2, 9), 1);
        is("not HIGH", y.wave(0, 9), 0);
        is("in a GROUP", y.wave(2, 10), 0);
        is("in none", y.wave(0, 10), NONE);
        is("HIGH, in none", heights(9).wave(0, 10), NONE);
        is("no NAME", y.wave(1, 11), NONE);
        y.name(1, 1);
        is("a NAME", y.wave(1, 11), 1);
        on(14, "NONE: there is none such, another what.");
        for (int what = -1; what <= 12; what++) {
            is("behind the last, what " + what, y.wave(6, what), NONE);
            is("of none, what " + what, new BuoyReader().wave(0, what), NONE);
            is("of one CROSSING, what " + what, of(-1, 1).wave(0, what), NONE);
            for (int far : FAR) {
                is("wave(" + far + ", " + what + ")", y.wave(far, what), NONE);
            }
        }
        is("what 12", y.wave(0, 12), NONE);
        for (int what : FAR) {
            is("what " + what, y.wave(0, what), NONE);
        }
        BuoyReader most = full(-1, 1);
        is("the 299th", most.wave(298, 1), 2);
        is("the 300th", most.wave(299, 1), NONE);
    }

    private static void waves(String what, BuoyReader x, int wave, int... due) {
        for (int i = 0; i < due.length; i++) {
            is(what + ", wave(" + wave + ", " + i + ")", x.wave(wave, i), due[i]);
        }
    }

    private static void ranked() {
        on(15, "The WAVE of a RANK. NONE: there is none.");
        BuoyReader x = heights(4, 9, 6);
        is("the first", x.ranked(0), 1);
        is("the last", x.ranked(2), 0);
        is("behind the last", x.ranked(3), NONE);
        for (int rank : FAR) {
            is("ranked(" + rank + ")", x.ranked(rank), NONE);
        }
        is("of none", new BuoyReader().ranked(0), NONE);
        BuoyReader most = full(-1, 1);
        is("the last of 299", most.ranked(298), 298);
        is("behind it", most.ranked(299), NONE);
        most.set(1, 1);
        is("none by a wider BAND", most.ranked(0), NONE);
    }

    // ---- 16 and 17: THE HIGHEST, FREAKS

    private static void highest() {
        on(16, "MEANS of THE HIGHEST of a part, what 0: of HEIGHTS above, 1: below, 2: of PERIODS above, 3: below, 4: how many they are.");
        BuoyReader x = of(-1, 3, 3, -1, 9, -1, 4, 4, 4, -1, 1);
        // HEIGHTS 4, 10, 5, PERIODS 3, 2, 4.
        int[][] due = {{19, 3, 3, 1, 3}, {10, 1, 2, 1, 1}, {10, 1, 2, 1, 1}, {10, 1, 2, 1, 1}};
        int[] parts = {1, 2, 3, 10};
        for (int i = 0; i < parts.length; i++) {
            for (int what = 0; what <= 4; what++) {
                is("highest(" + parts[i] + ", " + what + ")", x.highest(parts[i], what), due[i][what]);
            }
        }
        BuoyReader most = full(-1, 1);
        is("299 by 10", most.highest(10, 4), 29);
        is("299 by 1", most.highest(1, 4), 299);
        on(16, "NONE: another part, what.");
        for (int what = -1; what <= 5; what++) {
            is("part 0, what " + what, x.highest(0, what), NONE);
            is("part 11, what " + what, x.highest(11, what), NONE);
            is("part 0 of none, what " + what, new BuoyReader().highest(0, what), NONE);
            for (int part : FAR) {
                is("part " + part + ", what " + what, x.highest(part, what), NONE);
            }
        }
        for (int part = 1; part <= 10; part++) {
            is("part " + part + ", what 5", x.highest(part, 5), NONE);
            is("part " + part + ", what -1", x.highest(part, -1), NONE);
            is("part " + part + " of none, what 5", new BuoyReader().highest(part, 5), NONE);
        }
        for (int what : FAR) {
            is("what " + what, x.highest(1, what), NONE);
        }
    }

    private static void freak() {
        on(17, "The k-th FREAK by RANK. NONE: not so many.");
        BuoyReader x = heights(2, 30, 2, 2, 40, 30, 2, 2, 2, 2, 2, 2);
        x.set(2, 10);
        is("three", x.count(3), 3);
        is("0", x.freak(0), 4);
        is("1, of like ones the first", x.freak(1), 1);
        is("2", x.freak(2), 5);
        is("3", x.freak(3), NONE);
        for (int k : FAR) {
            is("freak(" + k + ")", x.freak(k), NONE);
        }
        x.set(2, 50);
        is("none by 50 tenths", x.freak(0), NONE);
        is("of none", new BuoyReader().freak(0), NONE);
    }

    // ---- 18 and 19: GROUPS

    private static void group() {
        on(18, "Of a GROUP, what 0: its first WAVE, 1: WAVES, 2: the one of the least RANK");
        BuoyReader x = heights(2, 8, 9, 9, 2, 2, 8, 8, 2);
        x.mark(0, 5);
        groups("the first", x, 0, 1, 3, 2, 5, 6);
        groups("of like ones the first", x, 1, 6, 2, 6, NONE, 4);
        int[] groupOf = {NONE, 0, 0, 0, NONE, NONE, 1, 1, NONE};
        for (int w = 0; w < groupOf.length; w++) {
            is("the GROUP of WAVE " + w, x.wave(w, 10), groupOf[w]);
        }
        on(18, "3: WAVES from its first to ahead of the next GROUP's first (NONE: it is the last), 4: SAMPLES");
        groups("the only one", of(-1, 4, 4, -1, 4, -1, 4), 0, 0, 2, 0, NONE, 5);
        BuoyReader parted = of(-1, 4, -1, 4, GAP, GAP, GAP, -1, 4, -1, 4);
        parted.set(3, 1);
        groups("right behind one another", parted, 0, 0, 1, 0, 1, 2);
        groups("the last", parted, 1, 1, 1, 1, NONE, 2);
        BuoyReader three = of(-1, 4, -1, 4, -1, 4, -1, 4, GAP, GAP, GAP, -1, 4, -1, 5, -1, 4);
        groups("three, then another STRETCH", three, 0, 0, 3, 0, 3, 6);
        groups("two of another STRETCH", three, 1, 3, 2, 4, NONE, 4);
        BuoyReader all = full(-1, 1);
        groups("all of 299", all, 0, 0, 299, 0, NONE, 598);
        on(18, "NONE: there is none such, another what.");
        for (int what = -1; what <= 5; what++) {
            is("behind the last, what " + what, x.group(2, what), NONE);
            is("of none, what " + what, new BuoyReader().group(0, what), NONE);
            is("of no GROUPS, what " + what, heights(4).group(0, what), NONE);
            for (int far : FAR) {
                is("group(" + far + ", " + what + ")", x.group(far, what), NONE);
            }
        }
        is("what 5", x.group(0, 5), NONE);
        for (int what : FAR) {
            is("what " + what, x.group(0, what), NONE);
        }
    }

    private static void groups(String what, BuoyReader x, int group, int... due) {
        for (int i = 0; i < due.length; i++) {
            is(what + ", group(" + group + ", " + i + ")", x.group(group, i), due[i]);
        }
    }

    private static void energy() {
        on(19, "The squares of all HEIGHTS of a GROUP, together; (NONE) of all WAVES.");
        BuoyReader x = heights(2, 8, 9, 2, 2, 8, 8, 2);
        x.mark(0, 5);
        is("the first", x.energy(0), 145);
        is("the last", x.energy(1), 128);
        is("all WAVES", x.energy(NONE), 289);
        is("all of none", new BuoyReader().energy(NONE), 0);
        is("all of one CROSSING", of(-1, 1).energy(NONE), 0);
        BuoyReader great = full(-9999, 9999);
        for (int i = 0; i < 4; i++) {
            great.lens(3, 30);
        }
        is("the greatest", great.energy(NONE), 299L * 1619838 * 1619838);
        is("the greatest GROUP", great.energy(0), 299L * 1619838 * 1619838);
        on(19, "-1: there is none such.");
        is("behind the last", x.energy(2), -1);
        is("-2", x.energy(-2), -1);
        for (int far : FAR) {
            is("energy(" + far + ")", x.energy(far), far == NONE ? 289 : -1);
        }
        is("of none", new BuoyReader().energy(0), -1);
        is("of no GROUPS", heights(9).energy(0), -1);
    }

    // ---- 20 to 22: NAMES

    private static void name() {
        on(20, "The TOP of a WAVE has a NAME: true.");
        BuoyReader x = of(-1, 3, 9, 9, -1, 4, -1, 5);
        is("the least NAME", x.name(0, 1), true);
        is("the TOP", x.sample(2, 5), 1);
        is("none but the TOP", x.sample(1, 5), NONE);
        is("the greatest NAME, the last WAVE", x.name(1, 999), true);
        is("the TOP", x.sample(5, 5), 999);
        on(20, "false: no such WAVE, NAME; that SAMPLE has a NAME; another SAMPLE has that one; there are 20.");
        BuoyReader y = heights(5, 6);
        is("behind the last", y.name(2, 7), false);
        is("NAME 0", y.name(0, 0), false);
        is("NAME 1000", y.name(0, 1000), false);
        for (int far : FAR) {
            is("WAVE " + far, y.name(far, 7), false);
            is("NAME " + far, y.name(0, far), false);
        }
        is("no WAVES", of(-1, 1).name(0, 7), false);
        is("none has 7", y.unname(7), NONE);
        y.name(0, 7);
        is("that SAMPLE has one", y.name(0, 8), false);
        is("another has that one", y.name(1, 7), false);
        is("it has that one itself", y.name(0, 7), false);
        is("none has 8", y.unname(8), NONE);
        is("the second has none", y.wave(1, 11), NONE);
        BuoyReader many = heights(Records.row(21, 5));
        for (int w = 0; w < 20; w++) {
            is("NAME " + (w + 1), many.name(w, w + 1), true);
        }
        is("there are 20", many.name(20, 21), false);
        is("there are 20 still", many.count(6), 20);
        is("none has 21", many.named(21), NONE);
        many.unname(20);
        is("19, so that one can be given", many.name(20, 21), true);
        aNameInTheWayOfItsTop();
    }

    private static void aNameInTheWayOfItsTop() {
        on(20, "that SAMPLE has a NAME");
        BuoyReader x = of(-9, 8, -1, 9, -9, 7);
        x.name(0, 5);
        x.set(1, 1);
        is("the WAVE bears a NAME", x.wave(0, 11), 5);
        is("its TOP has none", x.name(0, 6), true);
        is("the least is borne", x.wave(0, 11), 5);
    }

    private static void unname() {
        on(21, "A NAME is gone: the SAMPLE that had it.");
        BuoyReader x = of(Records.join(new int[] {-1, 1, -1}, Records.row(594, 0), new int[] {1, -1, 1}));
        x.name(0, 1);
        x.name(1, 999);
        is("1", x.unname(1), 1);
        is("999", x.unname(999), 597);
        is("none has 1", x.sample(1, 5), NONE);
        is("none is left", x.count(6), 0);
        BuoyReader first = of(-1, 4, -1, 4);
        first.name(0, 3);
        first.forget(1);
        is("SAMPLE 0", first.unname(3), 0);
        BuoyReader head = of(-1, 4, -1, 4);
        head.name(0, 3);
        head.set(1, 500);
        is("in no WAVE", head.unname(3), 1);
        on(21, "NONE: none has.");
        is("again", head.unname(3), NONE);
        is("of none", new BuoyReader().unname(1), NONE);
        is("0", head.unname(0), NONE);
        is("1000", head.unname(1000), NONE);
        for (int name : FAR) {
            is("unname(" + name + ")", head.unname(name), NONE);
        }
    }

    private static void named() {
        on(22, "The WAVE in which the SAMPLE of a NAME lies.");
        BuoyReader x = full(-1, 1);
        x.name(0, 1);
        x.name(298, 999);
        is("the first", x.named(1), 0);
        is("the last", x.named(999), 298);
        on(22, "NONE: none has it; it is in none.");
        is("none has 2", x.named(2), NONE);
        is("0", x.named(0), NONE);
        is("1000", x.named(1000), NONE);
        for (int name : FAR) {
            is("named(" + name + ")", x.named(name), NONE);
        }
        is("of none", new BuoyReader().named(1), NONE);
        x.set(1, 1);
        is("without WAVES", x.named(1), NONE);
        x.set(1, 0);
        x.forget(1);
        is("in the HEAD", x.named(1), NONE);
        is("come up", x.named(999), 297);
        x.forget(1);
        is("forgotten", x.named(1), NONE);
        BuoyReader tail = of(-9, 9, -9, 3, -1, 2, -9, 9);
        tail.name(2, 4);
        is("a WAVE of its own", tail.named(4), 2);
        tail.set(1, 2);
        is("in another WAVE", tail.named(4), 1);
        tail.set(1, 3);
        is("in the WAVE ahead", tail.named(4), 0);
        tail.set(1, 8);
        is("the same", tail.named(4), 0);
        tail.set(1, 9);
        is("in the HEAD that is all", tail.named(4), NONE);
        BuoyReader last = of(-9, 9, -9, 9, -1, 2, -1, 3);
        last.name(2, 4);
        is("a WAVE", last.named(4), 2);
        last.set(1, 1);
        is("in the TAIL", last.named(4), NONE);
    }

    // ---- 23 to 25: what would be

    private static void would() {
        on(23, "How many WAVES there would be by another BAND.");
        BuoyReader x = of(-501, 501, -500, 500, -501, 501, -1, 1);
        is("0", x.would(0), 3);
        is("1", x.would(1), 2);
        is("499", x.would(499), 2);
        is("500", x.would(500), 1);
        is("BAND stays", x.count(8), 0);
        is("WAVES stay", x.count(2), 3);
        x.set(1, 500);
        is("by BAND 500", x.count(2), 1);
        is("a narrower one", x.would(0), 3);
        is("the same", x.would(500), 1);
        is("none", new BuoyReader().would(0), 0);
        is("none by 500", new BuoyReader().would(500), 0);
        is("299", full(-1, 1).would(0), 299);
        is("299 less", full(-1, 1).would(1), 0);
        on(23, "NONE: it can't be.");
        is("501", x.would(501), NONE);
        is("-1", x.would(-1), NONE);
        is("501 of none", new BuoyReader().would(501), NONE);
        is("-1 of none", new BuoyReader().would(-1), NONE);
        for (int band : FAR) {
            is("would(" + band + ")", x.would(band), NONE);
        }
    }

    private static void quiet() {
        on(24, "The least BAND by which there are n WAVES at most.");
        BuoyReader x = of(-501, 500, -500, 501, -1, 501, -3, 3, -2, 2);
        // HEIGHTS apart, the CROSSINGS lie at 1, 3, 5, 7, 9: by 1 not at 5, by 2 not at 9, by 3 not at 7.
        int[] due = {500, 3, 2, 1, 0, 0};
        for (int n = 0; n < due.length; n++) {
            is(n + " at most", x.quiet(n), due[n]);
        }
        is("the greatest n", x.quiet(Integer.MAX_VALUE), 0);
        is("none", new BuoyReader().quiet(0), 0);
        is("298 of 299", full(-1, 1).quiet(298), 1);
        is("299 of 299", full(-1, 1).quiet(299), 0);
        x.set(1, 500);
        is("whatever BAND is", x.quiet(0), 500);
        is("whatever BAND is", x.quiet(4), 0);
        on(24, "NONE: n below 0, by none.");
        is("-1", x.quiet(-1), NONE);
        is("-1 of none", new BuoyReader().quiet(-1), NONE);
        is("far below", x.quiet(Integer.MIN_VALUE), NONE);
        is("by 500", of(-500, 500, -500, 500).quiet(0), 500);
        is("the one less by 500", of(-501, 501, -500, 501).quiet(0), 500);
        is("by none", of(-501, 501, -501, 501).quiet(0), NONE);
        is("one at most", of(-501, 501, -501, 501).quiet(1), 0);
        is("298 of 299 by none", full(-501, 501).quiet(298), NONE);
    }

    private static void gone() {
        on(25, "The least BAND by which no CROSSING would lie among the SAMPLES of a WAVE (as it is now).");
        is("1", of(-1, 1, -1, 1).gone(0), 1);
        is("the one ahead is the less", of(-2, 9, -9, 9).gone(0), 2);
        is("the CROSSING is the less", of(-9, 2, -9, 9).gone(0), 2);
        is("another SAMPLE of it is higher", of(-9, 2, 5, -9, 9).gone(0), 5);
        is("500, by the one ahead", of(-500, 501, -501, 501).gone(0), 500);
        is("500, by the CROSSING", of(-501, 500, -501, 501).gone(0), 500);
        BuoyReader x = of(-10, 3, 7, -10, 8);
        x.set(1, 3);
        is("it begins behind the 3", x.wave(0, 0), 2);
        is("0: the CROSSING would lie ahead", x.gone(0), 0);
        BuoyReader y = of(-9, 4, 6, -1, 8, -9, 9);
        y.set(1, 1);
        is("as it is now", y.wave(0, 1), 5);
        is("all its SAMPLES count", y.gone(0), 8);
        is("BAND stays", y.count(8), 1);
        is("WAVES stay", y.count(2), 1);
        goneAboutALevel();
        goneStepByStep();
        on(25, "NONE: there is none such, by none.");
        is("by none", of(-501, 501, -501, 501).gone(0), NONE);
        is("behind the last", y.gone(1), NONE);
        for (int wave : FAR) {
            is("gone(" + wave + ")", y.gone(wave), NONE);
        }
        is("of none", new BuoyReader().gone(0), NONE);
        is("of one CROSSING", of(-1, 1).gone(0), NONE);
        BuoyReader most = full(-1, 1);
        is("the 299th", most.gone(298), 1);
        is("the 300th", most.gone(299), NONE);
    }

    private static void goneAboutALevel() {
        BuoyReader x = of(97, 105, 95, 99, 106, 91, 109);
        x.level(0, 100);
        // About LEVEL: -3, 5, -5, -1, 6, -9, 9.
        is("about 100", x.count(2), 2);
        is("the first", x.gone(0), 3);
        // By 5 the -5 is within the BAND, and of what is ahead of it nothing is below.
        is("the second", x.gone(1), 5);
        x.set(1, 4);
        is("by BAND 4 the first of two CROSSINGS is the second one", x.wave(0, 0), 4);
        is("still", x.gone(0), 5);
        BuoyReader y = of(-6, 6, -4, 4, -9, 9);
        // By 4 neither -4 nor 4 counts, and the 6 ahead is the latest outside the BAND.
        is("above ahead of it", y.gone(1), 4);
        BuoyReader z = of(-9, 3, -2, 4, -9, 9);
        // By 2 the -2 is within the BAND, by 3 the 3 too: then the -9 is the latest below.
        is("by 2 it would lie in the one ahead", z.gone(1), 2);
        BuoyReader again = of(-3, 2, -5, 5, -9, 9);
        again.set(1, 3);
        is("from the 5", again.wave(0, 0), 3);
        is("below and above are within it", again.gone(0), 5);
        BuoyReader twice = of(-9, 4, -3, 6, -9, 9);
        twice.set(1, 3);
        is("from the 4 to ahead of the last", twice.wave(0, 1), 4);
        is("by 0 two would lie there, by 4 the second of them still", twice.gone(0), 6);
        BuoyReader less = of(90, 103, 85, 110);
        less.level(0, 100);
        is("about 100, the CROSSING is the less", less.gone(0), 3);
        BuoyReader within = of(-10, 3, 7, -2, 6, -10, 9);
        within.set(1, 5);
        is("from the 7 to the last -10", within.wave(0, 0) * 10 + within.wave(0, 1), 24);
        is("by 0 and 1 the 6 would be one", within.gone(0), 2);
        BuoyReader onTheBand = of(-10, 3, 7, -3, 6, -10, 9);
        onTheBand.set(1, 5);
        is("by 3 the 3 is not above, so that the 7 would be one", onTheBand.gone(0), 7);
        BuoyReader behindALowOne = of(-20, 5, 9, -3, 4, -10, -3, 6, -20, 9);
        behindALowOne.set(1, 6);
        is("from the 9 to the last -20", behindALowOne.wave(0, 0) * 10 + behindALowOne.wave(0, 1), 27);
        is("by 3 the last -3 is not below, but the -10 is", behindALowOne.gone(0), 9);
    }

    /** By each BAND another SAMPLE of the WAVE is its CROSSING, so that no BAND can be left out. */
    private static void goneStepByStep() {
        int[] low = {-1000};
        int[] last = {600};
        for (int highest = 498; highest <= 501; highest++) {
            int[] rising = new int[highest];
            for (int i = 0; i < highest; i++) {
                rising[i] = i + 1;
            }
            BuoyReader x = of(Records.join(low, rising, low, last));
            is("1 to " + highest + " is one WAVE", x.wave(0, 1), highest + 1);
            is("1 to " + highest, x.gone(0), highest > 500 ? NONE : highest);
        }
    }

    /** What was asked ahead of a change is answered anew behind it. */
    private static void changesShow() {
        sentence = "a change shows behind a question: ";
        BuoyReader x = of(-1, 5);
        is("no WAVES", x.count(2), 0);
        x.heave(-4);
        x.heave(3);
        is("heave", x.count(2), 1);
        x.four(pack(-2, 2, GAP, -2));
        is("four", x.count(2), 2);
        is("four, the GAP is MENDED", x.sample(6, 1), 0);
        x.set(0, 0);
        is("set MEND", x.count(1), 2);
        x.set(1, 2);
        is("set BAND", x.count(2), 0);
        x.set(1, 0);
        is("set BAND again", x.count(2), 2);
        is("a GROUP of two", x.count(4), 1);
        x.set(3, 3);
        is("set LEAST", x.count(4), 0);
        x.set(3, 1);
        x.mark(0, 5);
        is("mark", x.wave(1, 9), 0);
        is("mark, a GROUP of one", x.group(0, 1), 1);
        x.level(0, 4);
        is("level", x.count(2), 0);
        x.level(0, 0);
        is("level again", x.count(2), 2);
        x.lens(1, 0);
        is("lens", x.count(2), 0);
        x.off();
        is("off", x.count(2), 2);
        x.name(0, 9);
        is("name", x.wave(0, 11), 9);
        x.unname(9);
        is("unname", x.wave(0, 11), NONE);
        x.forget(1);
        is("forget", x.count(2), 1);
        BuoyReader y = heights(9, 8, 2, 2, 2, 2);
        is("no FREAK", y.count(3), 0);
        y.set(2, 10);
        is("set FACTOR", y.count(3), 1);
    }

    /** What was there ahead of a change and is there no more does not count. */
    private static void nothingIsLeftBehind() {
        sentence = "what is gone does not count: ";
        BuoyReader x = heights(9, 8, 2, 2, 2, 2, 99, 99, 99);
        is("nine WAVES", x.count(2), 9);
        x.set(2, 10);
        x.set(1, 1);
        is("by BAND 1 none", x.count(2), 0);
        x.forget(20);
        Records.come(x, -2, 7, -2, 6, -2, 5, -2, 5, -2, 5, -2, 5, -2, 5);
        is("six WAVES", x.count(2), 6);
        is("the highest", x.ranked(0), 0);
        is("the last by RANK", x.ranked(5), 5);
        is("FREAKS", x.count(3), 1);
        is("GROUPS", x.count(4), 1);
        is("energy", x.energy(NONE), 341);
        BuoyReader y = of(-1, 1, -1, 1, GAP, GAP, GAP, -1, 1, -1, 1, GAP, GAP, GAP, -1, 1, -1, 1);
        is("three STRETCHES", y.would(0), 3);
        y.set(0, 3);
        // Each row of GAPS between 1 and -1 is MENDED to 0, 0, -1 (2 by 4, 0 by 4, -2 by 4).
        is("one STRETCH", y.count(1), 1);
        is("WAVES of the one", y.would(0), 5);
        is("BAND for none", y.quiet(0), 1);
        y.forget(14);
        is("WAVES of what is left", y.would(0), 1);
        y.forget(4);
        is("WAVES of none", y.would(0), 0);
        is("STRETCHES of none", y.count(1), 0);
        is("GAPS of none", y.count(13), 0);
        is("MENDED of none", y.count(14), 0);
    }
}
