/**
 * The edges that the document's Terms name, a test of its own for each sentence: told by the
 * sentence's words, with the last number that is taken and the first that is not, what is empty, what
 * is full. No object is used for more than 512 calls.
 */
public final class TermEdgesTest {
    private static final int NONE = Records.NONE;
    private static final int GAP = Records.GAP;
    private static final int FAR = Integer.MAX_VALUE;
    private static final int FAR_BELOW = Integer.MIN_VALUE;
    private static final Due DUE = new Due();
    private static String sentence = "";

    private TermEdgesTest() { }

    public static void main(String[] args) {
        calls();
        constants();
        record();
        stretches();
        lenses();
        levels();
        crossings();
        waves();
        highest();
        highAndGroups();
        names();
        DUE.end();
    }

    private static void on(String words) {
        sentence = words;
    }

    private static void is(String what, long got, long want) {
        DUE.is("\"" + sentence + "\": " + what, got, want);
    }

    private static void is(String what, boolean got, boolean want) {
        is(what, got ? 1 : 0, want ? 1 : 0);
    }

    private static BuoyReader of(int... values) {
        return Records.of(values);
    }

    private static BuoyReader heights(int... heights) {
        return Records.heights(heights);
    }

    private static BuoyReader full(int... pattern) {
        return of(Records.row(Records.FULL, pattern));
    }

    private static void shows(String what, BuoyReader x, int... due) {
        for (int i = 0; i < due.length; i++) {
            is(what + ", sample " + i, x.sample(i, 2), due[i]);
        }
    }

    private static void calls() {
        on("An object is used for at most 512 calls after it has been made; what later calls answer is free.");
        BuoyReader x = new BuoyReader();
        for (int i = 1; i <= 510; i++) {
            is("call " + i, x.heave(i % 2 == 0 ? 1 : -1), i);
        }
        is("the 511th call", x.count(2), 254);
        is("the 512th call", x.wave(253, 0), 507);
        BuoyReader asked = Records.five();
        for (int i = 4; i <= 511; i++) {
            asked.quiet(i % 5);
        }
        is("the 512th call behind questions", asked.quiet(1), 2);
    }

    private static void constants() {
        on("`NONE = -1`: There is none.");
        is("NONE", BuoyReader.NONE, -1);
        on("`GAP = -32768`: What no HEAVE is.");
        is("GAP", BuoyReader.GAP, -32768);
    }

    // ---- the record

    private static void record() {
        samplesAtMost600();
        samplesFrom0();
        heaveOrGap();
        mendRange();
        asManyAsMend();
        heavesAheadAndBehind();
        mendedValue();
        mendedGreatest();
        otherGaps();
    }

    private static void samplesAtMost600() {
        on("THE RECORD: SAMPLES, at most 600");
        BuoyReader x = of(Records.row(599, 4));
        is("the 600th", x.heave(7), 600);
        is("the 601st", x.heave(8), NONE);
        is("a GAP as the 601st", x.heave(GAP), NONE);
        is("four more", x.four(0), NONE);
        is("how many", x.count(0), 600);
        is("the 600th is the last", x.sample(599, 0), 7);
        is("none behind it", x.sample(600, 0), NONE);
        BuoyReader y = of(Records.row(596, 4));
        is("four up to 600", y.four(Records.pack(1, 2, 3, 5)), 600);
        is("the last of the four", y.sample(599, 0), 5);
        for (int some = 597; some <= 600; some++) {
            BuoyReader z = of(Records.row(some, 4));
            is("four behind " + some, z.four(0), NONE);
            is("none of the four came", z.count(0), some);
        }
    }

    private static void samplesFrom0() {
        on("numbered from 0 on");
        BuoyReader x = of(31, 32, 33);
        is("0 is the first", x.sample(0, 0), 31);
        is("2 is the last", x.sample(2, 0), 33);
        is("3 is none", x.sample(3, 0), NONE);
        is("-1 is none", x.sample(-1, 0), NONE);
    }

    private static void heaveOrGap() {
        on("a HEAVE (-9999 to 9999) or a GAP");
        int[] taken = {-9999, -9998, -1, 0, 1, 9998, 9999, GAP};
        for (int v : taken) {
            BuoyReader x = new BuoyReader();
            is("heave(" + v + ")", x.heave(v), 1);
            is("it came", x.sample(0, 0), v);
        }
        int[] refused = {-10000, 10000, GAP + 1, GAP - 1, 32768, 65535, 65536, 65536 - 9999, FAR, FAR_BELOW};
        for (int v : refused) {
            BuoyReader x = new BuoyReader();
            is("heave(" + v + ")", x.heave(v), NONE);
            is("none came", x.count(0), 0);
        }
    }

    private static void mendRange() {
        on("MEND, 0 to 20 (2 at first)");
        BuoyReader x = new BuoyReader();
        is("at first", x.count(7), 2);
        is("-1", x.set(0, -1), false);
        is("21", x.set(0, 21), false);
        is("still", x.count(7), 2);
        is("0", x.set(0, 0), true);
        is("it is 0", x.count(7), 0);
        is("20", x.set(0, 20), true);
        is("it is 20", x.count(7), 20);
        BuoyReader two = of(6, GAP, GAP, 6, GAP, GAP, GAP, 6);
        is("two are MENDED at first", two.sample(1, 1), 6);
        is("three are not", two.sample(4, 1), GAP);
        is("how many", two.count(14), 2);
    }

    private static void asManyAsMend() {
        on("a row of GAPS, as many as MEND at most");
        for (int mend = 0; mend <= 20; mend++) {
            int[] heave = {5};
            BuoyReader x = of(Records.join(heave, Records.row(mend, GAP), heave, Records.row(mend + 1, GAP), heave));
            x.set(0, mend);
            is("GAPS by MEND " + mend, x.count(13), 2 * mend + 1);
            is("MENDED by " + mend, x.count(14), mend);
            is("STRETCHES by " + mend, x.count(1), 2);
            is("the first row by " + mend, x.stretch(0, 1), mend + 2);
            is("one too many by " + mend, x.sample(mend + 2, 1), GAP);
            is("the last of them by " + mend, x.sample(2 * mend + 2, 1), GAP);
        }
    }

    private static void heavesAheadAndBehind() {
        on("with HEAVES ahead of it and behind it is MENDED");
        is("ahead none", of(GAP, 5).sample(0, 1), GAP);
        is("behind none", of(5, GAP).sample(1, 1), GAP);
        is("neither", of(GAP).sample(0, 1), GAP);
        is("two, neither", of(GAP, GAP).count(14), 0);
        is("both", of(5, GAP, 5).sample(1, 1), 5);
        BuoyReader x = of(5, GAP);
        x.heave(9);
        is("a HEAVE comes behind", x.sample(1, 1), 7);
        x.forget(1);
        is("that ahead is forgotten", x.sample(0, 1), GAP);
        is("only the HEAVE is left", x.stretch(0, 0), 1);
        BuoyReader y = of(Records.join(Records.row(598, GAP), new int[] {3, GAP}));
        y.set(0, 20);
        is("a HEAVE near the end alone", y.count(14), 0);
        is("its STRETCH", y.stretch(0, 0), 598);
    }

    private static void mendedValue() {
        on("a times (g and 1 less k) and b times k together, by g and 1, rounded down");
        is("-1 by 2", of(0, GAP, -1).sample(1, 1), -1);
        is("-1 by 2, a lower", of(-1, GAP, 0).sample(1, 1), -1);
        is("1 by 2", of(0, GAP, 1).sample(1, 1), 0);
        is("1 by 2, a greater", of(1, GAP, 0).sample(1, 1), 0);
        is("-2 by 3", of(-1, GAP, GAP, 0).sample(1, 1), -1);
        is("-1 by 3", of(-1, GAP, GAP, 0).sample(2, 1), -1);
        is("2 by 3", of(1, GAP, GAP, 0).sample(1, 1), 0);
        is("1 by 3", of(1, GAP, GAP, 0).sample(2, 1), 0);
        is("k is from 1 on", of(0, GAP, GAP, 9).sample(1, 1), 3);
        is("up to g", of(0, GAP, GAP, 9).sample(2, 1), 6);
        is("-4 by 2 stays", of(-4, GAP, 0).sample(1, 1), -2);
        is("of HEAVES, not of MENDED ones", of(0, GAP, 8, GAP, 1).sample(3, 1), 4);
    }

    private static void mendedGreatest() {
        on("the k-th of g GAPS (from 1 on) between a and b is a times (g and 1 less k) and b times k together");
        is("in the middle of all", of(-9999, GAP, 9999).sample(1, 1), 0);
        is("first of two", of(9999, GAP, GAP, -9999).sample(1, 1), 3333);
        is("second of two", of(9999, GAP, GAP, -9999).sample(2, 1), -3333);
        is("between 9999 and 9999", of(9999, GAP, 9999).sample(1, 1), 9999);
        is("between -9999 and -9999", of(-9999, GAP, -9999).sample(1, 1), -9999);
        BuoyReader x = of(Records.join(new int[] {-9999}, Records.row(20, GAP), new int[] {9999}));
        x.set(0, 20);
        is("1st of 20, -189981 by 21", x.sample(1, 1), -9047);
        is("10th of 20, -9999 by 21", x.sample(10, 1), -477);
        is("11th of 20, 9999 by 21", x.sample(11, 1), 476);
        is("20th of 20, 189981 by 21", x.sample(20, 1), 9046);
    }

    private static void otherGaps() {
        on("Other GAPS are REFUSED.");
        BuoyReader x = of(8, GAP, GAP, GAP, 8);
        for (int i = 1; i <= 3; i++) {
            is("came", x.sample(i, 0), GAP);
            is("MENDED", x.sample(i, 1), GAP);
            is("SEEN", x.sample(i, 2), GAP);
            is("STRETCH", x.sample(i, 3), NONE);
            is("WAVE", x.sample(i, 4), NONE);
        }
        is("GAPS", x.count(13), 3);
        is("MENDED", x.count(14), 0);
    }

    // ---- stretches

    private static void stretches() {
        stretchesEmptyAndFull();
        stretchesAsManyAsCanBe();
        stretchesFrom0();
    }

    private static void stretchesEmptyAndFull() {
        on("STRETCHES: SAMPLES one behind the other without REFUSED ones");
        is("no SAMPLES", new BuoyReader().count(1), 0);
        is("a GAP alone", of(GAP).count(1), 0);
        BuoyReader gaps = full(GAP);
        is("600 GAPS", gaps.count(1), 0);
        is("600 GAPS, count", gaps.count(13), 600);
        is("600 GAPS, MENDED", gaps.count(14), 0);
        is("600 GAPS, none first", gaps.stretch(0, 0), NONE);
        BuoyReader one = of(5);
        is("one SAMPLE", one.count(1), 1);
        is("one SAMPLE long", one.stretch(0, 1), 1);
        BuoyReader whole = full(5);
        is("600 SAMPLES", whole.count(1), 1);
        is("600 SAMPLES long", whole.stretch(0, 1), 600);
        is("the last SAMPLE's", whole.sample(599, 3), 0);
    }

    private static void stretchesAsManyAsCanBe() {
        on("as many as can be");
        BuoyReader x = of(GAP, 1, GAP, 2, GAP, GAP, 3, GAP, GAP, GAP, 4, GAP);
        is("MENDED ones part nothing", x.count(1), 2);
        is("from the first HEAVE", x.stretch(0, 0), 1);
        is("to the last ahead of REFUSED ones", x.stretch(0, 1), 6);
        is("the next one", x.stretch(1, 0), 10);
        is("ends ahead of the last GAP", x.stretch(1, 1), 1);
    }

    private static void stretchesFrom0() {
        on("without REFUSED ones, as many as can be; numbered from 0 on");
        BuoyReader x = full(1, GAP);
        x.set(0, 0);
        is("as many as there can be", x.count(1), 300);
        is("0 is the first", x.stretch(0, 0), 0);
        is("299 is the last", x.stretch(299, 0), 598);
        is("300 is none", x.stretch(300, 0), NONE);
        is("-1 is none", x.stretch(-1, 0), NONE);
        is("of the first SAMPLE", x.sample(0, 3), 0);
        is("of the last HEAVE", x.sample(598, 3), 299);
        is("of the last GAP", x.sample(599, 3), NONE);
    }

    // ---- lenses

    private static void lenses() {
        lensesAtMost4();
        lensesInOrder();
        lensesByStretch();
        meanRange();
        meanSides();
        meanRounded();
        clip();
        turn();
        scale();
        lag();
        seenWithoutLenses();
    }

    private static void takes(int kind, int least, int greatest) {
        is("n " + (least - 1), new BuoyReader().lens(kind, least - 1), NONE);
        is("n " + least, new BuoyReader().lens(kind, least), 1);
        is("n " + greatest, new BuoyReader().lens(kind, greatest), 1);
        is("n " + (greatest + 1), new BuoyReader().lens(kind, greatest + 1), NONE);
        is("n far off", new BuoyReader().lens(kind, FAR), NONE);
        is("n far below", new BuoyReader().lens(kind, FAR_BELOW), NONE);
    }

    private static void lensesAtMost4() {
        on("LENSES, at most 4");
        BuoyReader x = of(100);
        for (int i = 1; i <= 4; i++) {
            is("lens " + i, x.lens(3, 5), i);
        }
        for (int kind = 0; kind <= 4; kind++) {
            is("a fifth of kind " + kind, x.lens(kind, kind == 2 ? 0 : 1), NONE);
        }
        is("how many", x.count(5), 4);
        is("halved four times", x.sample(0, 2), 6);
        is("behind three", x.through(0, 3), 12);
    }

    private static void lensesInOrder() {
        on("in the order in which they were laid on, each upon what the one ahead shows");
        BuoyReader x = of(8);
        x.lens(3, 5);
        x.lens(1, 3);
        is("SCALE, then CLIP", x.sample(0, 2), 3);
        BuoyReader y = of(8);
        y.lens(1, 3);
        y.lens(3, 5);
        is("CLIP, then SCALE", y.sample(0, 2), 1);
        BuoyReader z = of(0, 0, 9);
        z.lens(4, 1);
        z.lens(0, 1);
        shows("LAG, then MEAN", z, 0, 3, 4);
        BuoyReader w = of(0, 0, 9);
        w.lens(0, 1);
        w.lens(4, 1);
        shows("MEAN, then LAG", w, 0, 3, 1);
    }

    private static void lensesByStretch() {
        on("each STRETCH by itself");
        BuoyReader x = of(90, 90, GAP, GAP, GAP, 0, 0, 0);
        x.lens(0, 5);
        shows("MEAN of 5", x, 90, 90, GAP, GAP, GAP, 0, 0, 0);
        x.off();
        x.lens(4, 1);
        shows("LAG of 1", x, 0, 0, GAP, GAP, GAP, 0, 0, 0);
        x.off();
        x.lens(4, 5);
        shows("LAG of 5", x, 0, 0, GAP, GAP, GAP, 0, 0, 0);
        x.set(0, 3);
        is("one STRETCH", x.sample(5, 2), -90);
    }

    private static void meanRange() {
        on("0 MEAN of n (1 to 5)");
        takes(0, 1, 5);
    }

    private static void meanSides() {
        on("of a SAMPLE and n at either side, as far as the STRETCH goes, together, by how many these are");
        int[] impulse = Records.row(13, 0);
        impulse[6] = 110;
        BuoyReader x = of(impulse);
        x.lens(0, 5);
        shows("MEAN of 5", x, 0, 15, 13, 12, 11, 10, 10, 10, 11, 12, 13, 15, 0);
        x.off();
        x.lens(0, 1);
        shows("MEAN of 1", x, 0, 0, 0, 0, 0, 36, 36, 36, 0, 0, 0, 0, 0);
        BuoyReader one = of(-7);
        one.lens(0, 5);
        is("a STRETCH of one", one.sample(0, 2), -7);
        BuoyReader ends = of(12, 0, 0, 0, 0, -12);
        ends.lens(0, 2);
        shows("the ends", ends, 4, 3, 2, -3, -3, -4);
        BuoyReader great = full(9999);
        great.lens(0, 5);
        is("600 of the greatest", great.sample(300, 2), 9999);
        is("the last of them", great.sample(599, 2), 9999);
    }

    private static void meanRounded() {
        on("by how many these are, rounded down");
        BuoyReader x = of(-1, 0);
        x.lens(0, 1);
        shows("-1 by 2", x, -1, -1);
        BuoyReader y = of(1, 0);
        y.lens(0, 1);
        shows("1 by 2", y, 0, 0);
        BuoyReader z = of(-4, 0);
        z.lens(0, 1);
        shows("-4 by 2", z, -2, -2);
    }

    private static void clip() {
        on("1 CLIP at n (0 to 9999): -n at least, n at most");
        takes(1, 0, 9999);
        BuoyReader x = of(-11, -10, -9, 0, 9, 10, 11);
        x.lens(1, 10);
        shows("CLIP at 10", x, -10, -10, -9, 0, 9, 10, 10);
        x.lens(1, 0);
        shows("CLIP at 0", x, 0, 0, 0, 0, 0, 0, 0);
        BuoyReader y = of(9090, 9091, -9090, -9091);
        y.lens(3, 11);
        shows("beyond 9999", y, 9999, 10000, -9999, -10001);
        y.lens(1, 9999);
        shows("CLIP at 9999", y, 9999, 9999, -9999, -9999);
    }

    private static void turn() {
        on("2 TURN (n 0): the same below 0 instead of above");
        takes(2, 0, 0);
        BuoyReader x = of(9999, 1, 0, -1, -9999);
        x.lens(2, 0);
        shows("TURN", x, -9999, -1, 0, 1, 9999);
    }

    private static void scale() {
        on("3 SCALE by n (1 to 30): times n, by 10, rounded down");
        takes(3, 1, 30);
        BuoyReader x = of(9, 10, 0, -1, -10, -11, 9999, -9999);
        x.lens(3, 1);
        shows("SCALE by 1", x, 0, 1, 0, -1, -1, -2, 999, -1000);
        x.off();
        x.lens(3, 10);
        shows("SCALE by 10", x, 9, 10, 0, -1, -10, -11, 9999, -9999);
        x.off();
        x.lens(3, 30);
        shows("SCALE by 30", x, 27, 30, 0, -3, -30, -33, 29997, -29997);
        x.lens(3, 30);
        x.lens(3, 30);
        x.lens(3, 30);
        is("four times by 30", x.sample(6, 2), 809919);
        is("four times by 30, below 0", x.sample(7, 2), -809919);
    }

    private static void lag() {
        on("4 LAG of n (1 to 9): less what the SAMPLE n ahead is (0 for the first n)");
        takes(4, 1, 9);
        BuoyReader x = of(1, 2, 4, 8, 16, 32, 64, 128, 256, 512, 1024);
        x.lens(4, 9);
        shows("LAG of 9", x, 0, 0, 0, 0, 0, 0, 0, 0, 0, 511, 1022);
        x.off();
        x.lens(4, 1);
        shows("LAG of 1", x, 0, 1, 2, 4, 8, 16, 32, 64, 128, 256, 512);
        BuoyReader nine = of(5, 5, 5, 5, 5, 5, 5, 5, 7);
        nine.lens(4, 9);
        shows("a STRETCH of nine", nine, 0, 0, 0, 0, 0, 0, 0, 0, 0);
        BuoyReader great = of(-9999, 9999, -9999);
        great.lens(4, 1);
        shows("the greatest", great, 0, 19998, -19998);
    }

    private static void seenWithoutLenses() {
        on("SEEN is a SAMPLE as the last LENS shows it");
        BuoyReader x = of(4, GAP, 9);
        shows("without any, as MENDED", x, 4, 6, 9);
        x.lens(2, 0);
        shows("the last of one", x, -4, -6, -9);
        x.lens(1, 5);
        shows("the last of two", x, -4, -5, -5);
    }

    // ---- levels, the band

    private static void levels() {
        levelTold();
        levelMean();
        levelMiddle();
        bandRange();
    }

    private static void levelTold() {
        on("LEVEL of a STRETCH, by RULE 0: a number told (-9999 to 9999; 0 at first)");
        BuoyReader x = of(3);
        is("RULE at first", x.count(11), 0);
        is("at first", x.stretch(0, 2), 0);
        is("10000", x.level(0, 10000), false);
        is("-10000", x.level(0, -10000), false);
        is("still", x.stretch(0, 2), 0);
        is("9999", x.level(0, 9999), true);
        is("it is 9999", x.stretch(0, 2), 9999);
        is("-9999", x.level(0, -9999), true);
        is("it is -9999", x.stretch(0, 2), -9999);
    }

    private static void levelMean() {
        on("1: the mean of all SEEN, rounded down");
        int[][] records = {{-1, 0}, {1, 0}, {5}, {-5}, {-1, -1, 0}, {-9999, 9999}};
        int[] due = {-1, 0, 5, -5, -1, 0};
        for (int i = 0; i < due.length; i++) {
            BuoyReader x = of(records[i]);
            x.level(1, 0);
            is("record " + i, x.stretch(0, 2), due[i]);
        }
        BuoyReader two = of(9, 8, GAP, GAP, GAP, -3, -4);
        two.level(1, 0);
        is("of the first STRETCH", two.stretch(0, 2), 8);
        is("of the second", two.stretch(1, 2), -4);
        BuoyReader great = full(9999);
        great.level(1, 0);
        is("600 of 9999", great.stretch(0, 2), 9999);
        for (int i = 0; i < 4; i++) {
            great.lens(3, 30);
        }
        is("600 of the greatest", great.stretch(0, 2), 809919);
        great.off();
        great.lens(2, 0);
        is("600 below 0", great.stretch(0, 2), -269973);
    }

    private static void levelMiddle() {
        on("2: the middle one of them by size, the lower one of two");
        int[][] records = {{5}, {9, 2}, {2, 9}, {9, 1, 5}, {9, 1, 5, 7}, {3, 3, 1, 3}, {1, 1, 1, 9}, {-4, -8}};
        int[] due = {5, 2, 2, 5, 5, 3, 1, -8};
        for (int i = 0; i < due.length; i++) {
            BuoyReader x = of(records[i]);
            x.level(2, 0);
            is("record " + i, x.stretch(0, 2), due[i]);
        }
        BuoyReader two = of(9, 8, 7, GAP, GAP, GAP, -3, -5, GAP, GAP, GAP, 4);
        two.level(2, 0);
        is("of the first STRETCH", two.stretch(0, 2), 8);
        is("of the second", two.stretch(1, 2), -5);
        is("of the third", two.stretch(2, 2), 4);
        BuoyReader half = full(1, -1);
        half.level(2, 0);
        is("300 of 600 lower", half.stretch(0, 2), -1);
        BuoyReader less = of(Records.join(Records.row(598, 1, -1), new int[] {1, 1}));
        less.level(2, 0);
        is("299 of 600 lower", less.stretch(0, 2), 1);
    }

    private static void bandRange() {
        on("BAND, 0 to 500 (0 at first).");
        BuoyReader x = new BuoyReader();
        is("at first", x.count(8), 0);
        is("-1", x.set(1, -1), false);
        is("501", x.set(1, 501), false);
        is("still", x.count(8), 0);
        is("500", x.set(1, 500), true);
        is("it is 500", x.count(8), 500);
        is("0", x.set(1, 0), true);
        is("it is 0", x.count(8), 0);
    }

    // ---- crossings

    private static void crossings() {
        levelIsNotAbove();
        bandIsNotAbove();
        greatestLevels();
        oneBelowAheadInItsStretch();
        noCrossingBehindTheLatest();
        headAndTail();
    }

    /** How many SAMPLES there are from the last CROSSING on: 0 without any. */
    private static int tail(BuoyReader x) {
        return x.stretch(0, 5);
    }

    private static void levelIsNotAbove() {
        on("A CROSSING is a SAMPLE above LEVEL and BAND together");
        is("-1, 1", tail(of(-1, 1)), 1);
        is("-1, 0: LEVEL is not above", tail(of(-1, 0)), 0);
        is("0, 1: LEVEL is not below", tail(of(0, 1)), 0);
        is("-1, 0, 1: at the last", tail(of(-1, 0, 1)), 1);
        BuoyReader x = of(6, 8, 7, 8);
        x.level(0, 7);
        is("about 7", tail(x), 3);
        x.level(0, 8);
        is("about 8", tail(x), 0);
        x.level(0, 6);
        is("about 6", tail(x), 0);
    }

    private static void bandIsNotAbove() {
        on("(LEVEL and BAND, LEVEL less BAND are not above, not below.)");
        int[] bands = {1, 5, 499, 500};
        for (int band : bands) {
            int[][] records = {{7 - band - 1, 7 + band + 1}, {7 - band, 7 + band + 1}, {7 - band - 1, 7 + band}};
            int[] due = {1, 0, 0};
            for (int i = 0; i < due.length; i++) {
                BuoyReader x = of(records[i]);
                x.level(0, 7);
                x.set(1, band);
                is("band " + band + ", record " + i, tail(x), due[i]);
            }
        }
        BuoyReader x = of(-6, 6, -5, 6, -6, 5, 6);
        x.set(1, 5);
        is("neither -5 nor 5 counts", x.count(2), 1);
        is("from the 6", x.wave(0, 0), 1);
        is("to ahead of the next 6", x.wave(0, 1), 5);
    }

    private static void greatestLevels() {
        on("LEVEL and BAND together");
        BuoyReader x = of(-9999, 9999);
        x.level(0, 9999);
        is("9999 is not above 9999", tail(x), 0);
        x.level(0, 9998);
        is("9999 is above 9998", tail(x), 1);
        x.level(0, -9999);
        is("-9999 is not below -9999", tail(x), 0);
        x.level(0, -9998);
        is("-9999 is below -9998", tail(x), 1);
        BuoyReader y = of(0, 3499, 3500);
        y.lens(3, 30);
        y.level(0, 9999);
        y.set(1, 500);
        is("10500 is above 10499, 10497 not", tail(y), 1);
        BuoyReader z = of(-3499, 0, -3500, 0);
        z.lens(3, 30);
        z.level(0, -9999);
        z.set(1, 500);
        is("-10500 is below -10499, -10497 not", z.stretch(0, 4), 3);
    }

    private static void oneBelowAheadInItsStretch() {
        on("if ahead of it in its STRETCH there is one below LEVEL less BAND");
        is("the first SAMPLE", tail(of(5)), 0);
        is("one below behind it", tail(of(5, -5)), 0);
        is("none below", tail(of(5, 5, 6)), 0);
        is("far ahead", tail(of(-5, 0, 0, 0, 0, 0, 5)), 1);
        BuoyReader x = of(-5, GAP, GAP, GAP, 5);
        is("in another STRETCH", x.stretch(1, 5), 0);
        is("all of that is HEAD", x.stretch(1, 4), 1);
        x.set(0, 3);
        is("in one STRETCH", x.stretch(0, 5), 2);
        BuoyReader far = of(Records.join(new int[] {-1}, Records.row(598, 0), new int[] {1}));
        is("598 ahead", far.stretch(0, 4), 599);
    }

    private static void noCrossingBehindTheLatest() {
        on("and no CROSSING behind the latest such one");
        is("above again, none below between", tail(of(-1, 1, 1, 0, 1)), 4);
        is("one below between", tail(of(-1, 1, -1, 1)), 1);
        is("no WAVE of it", of(-1, 1, 0, 1).count(2), 0);
        is("a WAVE of it", of(-1, 1, -1, 1).count(2), 1);
        is("two below", of(-1, -1, 1, -1, -1, 1).count(2), 1);
    }

    private static void headAndTail() {
        on("Ahead of the first CROSSING lies the HEAD of a STRETCH (all of it without any)");
        BuoyReader none = of(4, -4, 0, -4);
        is("without any", none.stretch(0, 4), 4);
        is("at the second SAMPLE", of(-1, 1, 1).stretch(0, 4), 1);
        is("at the last SAMPLE", of(1, -1, 1).stretch(0, 4), 2);
        on("from the last one on its TAIL (a STRETCH of one CROSSING has no WAVES)");
        is("without any", none.stretch(0, 5), 0);
        BuoyReader one = of(-1, 1, 1, -1);
        is("of one", one.stretch(0, 5), 3);
        is("of one, WAVES", one.stretch(0, 3), 0);
        is("of one, all WAVES", one.count(2), 0);
        is("of one, no WAVE's SAMPLE", one.sample(1, 4), NONE);
        BuoyReader two = of(-1, 1, -1, 1);
        is("of two", two.stretch(0, 5), 1);
        is("of two, WAVES", two.stretch(0, 3), 1);
        is("of two, the last is no WAVE's", two.sample(3, 4), NONE);
        BuoyReader parted = of(-1, 1, GAP, GAP, GAP, -1, 1);
        is("one CROSSING in each of two", parted.count(2), 0);
    }

    // ---- waves

    private static void waves() {
        shortestAndLongest();
        wavesFrom0();
        heightCrestTrough();
        top();
        period();
        ranks();
    }

    private static void shortestAndLongest() {
        on("A WAVE: from a CROSSING to ahead of the next one of its STRETCH");
        BuoyReader x = of(-1, 1, -1, 1);
        is("first", x.wave(0, 0), 1);
        is("PERIOD of the shortest", x.wave(0, 1), 2);
        is("its first SAMPLE", x.sample(1, 4), 0);
        is("its last SAMPLE", x.sample(2, 4), 0);
        is("ahead of it", x.sample(0, 4), NONE);
        is("behind it", x.sample(3, 4), NONE);
        BuoyReader y = of(Records.join(new int[] {-1}, Records.row(597, 1), new int[] {-1, 1}));
        is("PERIOD of the longest", y.wave(0, 1), 598);
        is("all its SAMPLES", y.count(15), 598);
        is("its last SAMPLE", y.sample(598, 4), 0);
    }

    private static void wavesFrom0() {
        on("WAVES are numbered from 0 on as they come");
        BuoyReader x = of(-1, 1, -1, 1, GAP, GAP, GAP, 1, GAP, GAP, GAP, -1, 1, -1, 1, -1, 1);
        is("how many", x.count(2), 3);
        is("the first", x.wave(0, 0), 1);
        is("of the third STRETCH", x.wave(1, 0), 12);
        is("its STRETCH", x.wave(1, 6), 2);
        is("the last", x.wave(2, 0), 14);
        is("3 is none", x.wave(3, 0), NONE);
        is("-1 is none", x.wave(-1, 0), NONE);
        BuoyReader most = full(-1, 1);
        is("as many as there can be", most.count(2), 299);
        is("the last of them", most.wave(298, 0), 597);
        is("299 is none", most.wave(299, 0), NONE);
    }

    private static void heightCrestTrough() {
        on("HEIGHT: its greatest SEEN less its least one; CREST: the greatest less LEVEL; TROUGH: LEVEL less the least");
        BuoyReader x = of(-50, 3, 9, -4, -7, 2, -60, 80);
        x.level(0, -5);
        is("two WAVES", x.count(2), 2);
        is("HEIGHT", x.wave(0, 2), 16);
        is("CREST", x.wave(0, 3), 14);
        is("TROUGH", x.wave(0, 4), 2);
        is("HEIGHT of the next", x.wave(1, 2), 62);
        is("CREST of the next", x.wave(1, 3), 7);
        is("TROUGH of the next", x.wave(1, 4), 55);
        BuoyReader least = of(-1, 1, -1, 1);
        is("the least HEIGHT", least.wave(0, 2), 2);
        is("the least CREST", least.wave(0, 3), 1);
        is("the least TROUGH", least.wave(0, 4), 1);
        BuoyReader great = of(-9999, 9999, -9999, 9999);
        for (int i = 0; i < 4; i++) {
            great.lens(3, 30);
        }
        is("the greatest HEIGHT", great.wave(0, 2), 1619838);
        great.level(0, 9999);
        is("CREST above 9999", great.wave(0, 3), 799920);
        is("TROUGH below 9999", great.wave(0, 4), 819918);
    }

    private static void top() {
        on("TOP: the first SAMPLE of its greatest");
        is("the first SAMPLE of all", of(-1, 9, 8, -1, 1).wave(0, 5), 1);
        is("of like ones the first", of(-1, 3, 9, 9, 0, 9, -1, 1).wave(0, 5), 2);
        is("the last above", of(-1, 3, 5, 9, -1, 1).wave(0, 5), 3);
        BuoyReader x = of(-1, 3, 9, -1, 1);
        x.lens(1, 2);
        is("of the SEEN ones", x.wave(0, 5), 1);
    }

    private static void period() {
        on("PERIOD: how many SAMPLES it has.");
        BuoyReader x = of(-1, 1, -1, 1, 2, 1, 0, 0, -1, 0, -1, 3, GAP, -3, 3);
        is("two", x.wave(0, 1), 2);
        is("eight", x.wave(1, 1), 8);
        is("a MENDED one counts too", x.wave(2, 1), 3);
        is("all of them", x.count(15), 13);
    }

    private static void ranks() {
        on("RANK: from 0 on, by HEIGHT, the greatest first, of like ones the first");
        BuoyReader x = heights(7, 9, 7, 9, 8);
        int[] due = {1, 3, 4, 0, 2};
        for (int r = 0; r < due.length; r++) {
            is("ranked " + r, x.ranked(r), due[r]);
            is("RANK of " + due[r], x.wave(due[r], 7), r);
        }
        BuoyReader like = full(-1, 1);
        is("299 like ones, the first", like.ranked(0), 0);
        is("299 like ones, in the middle", like.ranked(150), 150);
        is("299 like ones, the last", like.ranked(298), 298);
        BuoyReader one = heights(5);
        is("of one", one.ranked(0), 0);
        is("of one, no second", one.ranked(1), NONE);
    }

    // ---- the highest, means, freaks

    private static void highest() {
        partRange();
        nByPart();
        lowestTerms();
        withoutWaves();
        factorRange();
        aboveFactor();
        freakAgainstTheHighest();
    }

    private static void partRange() {
        on("THE HIGHEST of a part p (1 to 10)");
        BuoyReader x = heights(5, 4, 3);
        is("part 0", x.highest(0, 4), NONE);
        is("part 1", x.highest(1, 4), 3);
        is("part 10", x.highest(10, 4), 1);
        is("part 11", x.highest(11, 4), NONE);
    }

    private static void nByPart() {
        on("of the n WAVES those of the n by p, rounded down, least RANKS, one at least (none without WAVES)");
        int[] ns = {1, 2, 3, 5, 6, 9, 10, 19, 20, 29, 30};
        for (int n : ns) {
            BuoyReader x = heights(Records.row(n, 4));
            for (int part = 1; part <= 10; part++) {
                is(n + " by " + part, x.highest(part, 4), n < part ? 1 : (n - n % part) / part);
            }
        }
        BuoyReader x = heights(2, 9, 3, 8, 2, 2);
        is("9 and 8, above", x.highest(3, 0), 17);
        is("9 and 8, below", x.highest(3, 1), 2);
        is("9 alone", x.highest(4, 0), 9);
        is("9 alone, one at least", x.highest(10, 0), 9);
        for (int part = 1; part <= 10; part++) {
            is("none, part " + part, new BuoyReader().highest(part, 4), 0);
        }
    }

    private static void lowestTerms() {
        on("MEANS of HEIGHTS, of PERIODS are told in lowest terms");
        BuoyReader x = heights(4, 6);
        is("10 by 2 above", x.highest(1, 0), 5);
        is("10 by 2 below", x.highest(1, 1), 1);
        BuoyReader y = heights(4, 5);
        is("9 by 2 above", y.highest(1, 0), 9);
        is("9 by 2 below", y.highest(1, 1), 2);
        BuoyReader z = heights(2, 2, 3, 3, 4, 4);
        is("18 by 6 above", z.highest(1, 0), 3);
        is("18 by 6 below", z.highest(1, 1), 1);
        BuoyReader w = heights(2, 2, 2, 4);
        is("10 by 4 above", w.highest(1, 0), 5);
        is("10 by 4 below", w.highest(1, 1), 2);
        BuoyReader p = of(-1, 1, 1, -1, 1, -1, 1, 1, 1, -1, 1, -1, 1);
        // PERIODS 3, 2, 4, 2: 11 by 4; HEIGHTS 2 each: 8 by 4.
        is("PERIODS above", p.highest(1, 2), 11);
        is("PERIODS below", p.highest(1, 3), 4);
        is("HEIGHTS above", p.highest(1, 0), 2);
        is("HEIGHTS below", p.highest(1, 1), 1);
    }

    private static void withoutWaves() {
        on("(0 by 1 without WAVES)");
        BuoyReader[] some = {new BuoyReader(), of(5), of(-1, 1), full(GAP), full(5)};
        for (BuoyReader x : some) {
            is("HEIGHTS above", x.highest(1, 0), 0);
            is("HEIGHTS below", x.highest(1, 1), 1);
            is("PERIODS above", x.highest(10, 2), 0);
            is("PERIODS below", x.highest(10, 3), 1);
        }
    }

    private static void factorRange() {
        on("FACTOR (10 to 50; 20 at first)");
        BuoyReader x = new BuoyReader();
        is("at first", x.count(9), 20);
        is("9", x.set(2, 9), false);
        is("51", x.set(2, 51), false);
        is("still", x.count(9), 20);
        is("10", x.set(2, 10), true);
        is("it is 10", x.count(9), 10);
        is("50", x.set(2, 50), true);
        is("it is 50", x.count(9), 50);
    }

    private static void aboveFactor() {
        on("FREAK: a WAVE whose HEIGHT is above FACTOR");
        // Of 9 WAVES three are THE HIGHEST: 20 tenths of 60 by 3 are 40, of 61 by 3 less than 41.
        is("40 against 40", heights(10, 10, 10, 40, 10, 10, 10, 10, 10).count(3), 0);
        is("41 against 40 and 2 by 3", heights(10, 10, 10, 41, 10, 10, 10, 10, 10).count(3), 1);
        // Of 18 WAVES six are THE HIGHEST: 50 tenths of 60 by 6 are 50.
        int[] many = Records.row(18, 2);
        many[17] = 50;
        BuoyReader x = heights(many);
        x.set(2, 50);
        is("50 against 50", x.count(3), 0);
        x.set(2, 49);
        is("50 against 49", x.count(3), 1);
        many[17] = 51;
        BuoyReader y = heights(many);
        y.set(2, 50);
        is("51 against 50 and 5 by 6", y.count(3), 1);
        is("it is the one", y.freak(0), 17);
        BuoyReader like = heights(8, 8, 8, 8, 8, 8);
        like.set(2, 10);
        is("8 against 8", like.count(3), 0);
        BuoyReader tenth = heights(9, 8, 2, 2, 2, 2);
        tenth.set(2, 10);
        is("9 against 17 by 2", tenth.count(3), 1);
        tenth.set(2, 11);
        is("9 against 11 tenths of it", tenth.count(3), 0);
    }

    private static void freakAgainstTheHighest() {
        on("tenths of the mean HEIGHT of THE HIGHEST of part 3");
        BuoyReader five = heights(2, 99, 2, 2, 2);
        five.set(2, 10);
        is("of five WAVES one is THE HIGHEST, not above itself", five.count(3), 0);
        BuoyReader six = heights(2, 99, 2, 2, 2, 2);
        six.set(2, 10);
        is("of six WAVES two are", six.count(3), 1);
        is("without WAVES", new BuoyReader().count(3), 0);
        is("without WAVES, none first", new BuoyReader().freak(0), NONE);
    }

    // ---- high waves, groups

    private static void highAndGroups() {
        markRange();
        highByMark1();
        highByMark2();
        highByMark3();
        leastRange();
        leastAtLeast();
        groupsOfOneStretch();
        groupsFrom0();
    }

    private static void isHigh(String what, BuoyReader x, int... due) {
        for (int w = 0; w < due.length; w++) {
            is(what + ", WAVE " + w, x.wave(w, 9), due[w]);
        }
    }

    private static void markRange() {
        on("HIGH, by MARK 0: above a number told (0 to 99999; 0 at first)");
        BuoyReader x = heights(2, 3, 4);
        is("MARK at first", x.count(12), 0);
        isHigh("at first", x, 1, 1, 1);
        is("-1", x.mark(0, -1), false);
        is("100000", x.mark(0, 100000), false);
        isHigh("still", x, 1, 1, 1);
        is("3", x.mark(0, 3), true);
        isHigh("above 3", x, 0, 0, 1);
        is("99999", x.mark(0, 99999), true);
        isHigh("above 99999", x, 0, 0, 0);
        is("0", x.mark(0, 0), true);
        isHigh("above 0", x, 1, 1, 1);
        BuoyReader y = of(-1, 5556, -5555, 1);
        y.lens(3, 30);
        y.lens(3, 30);
        y.mark(0, 99999);
        is("HEIGHT", y.wave(0, 2), 99999);
        is("99999 is not above 99999", y.wave(0, 9), 0);
        BuoyReader z = of(-1, 8000, -8000, 1);
        z.lens(3, 25);
        z.lens(3, 25);
        z.mark(0, 99999);
        is("HEIGHT", z.wave(0, 2), 100000);
        is("100000 is above 99999", z.wave(0, 9), 1);
    }

    private static void highByMark1() {
        on("1: above the mean HEIGHT of all WAVES");
        BuoyReader x = heights(4, 5, 6);
        x.mark(1, 0);
        isHigh("above 5", x, 0, 0, 1);
        BuoyReader y = heights(4, 5, 5);
        y.mark(1, 0);
        isHigh("above 14 by 3", y, 0, 1, 1);
        BuoyReader z = heights(4, 4, 5);
        z.mark(1, 0);
        isHigh("above 13 by 3", z, 0, 0, 1);
        BuoyReader like = heights(4, 4);
        like.mark(1, 0);
        isHigh("like ones", like, 0, 0);
        BuoyReader one = heights(4);
        one.mark(1, 0);
        isHigh("one alone", one, 0);
    }

    private static void highByMark2() {
        on("2: of THE HIGHEST of part 3");
        BuoyReader x = heights(9, 7, 2, 8, 2, 2, 2, 2, 2);
        x.mark(2, 0);
        isHigh("above 8", x, 1, 0, 0, 0);
        BuoyReader y = heights(9, 7, 2, 9, 2, 2, 2, 2, 2);
        y.mark(2, 0);
        isHigh("above 25 by 3", y, 1, 0, 0, 1);
        BuoyReader one = heights(9, 7, 2, 8, 2);
        one.mark(2, 0);
        isHigh("above the highest alone", one, 0, 0, 0, 0, 0);
    }

    private static void highByMark3() {
        on("3: above the middle HEIGHT of all, the lower one of two");
        int[][] some = {{4, 7}, {7, 4, 9}, {5, 9, 9, 9}, {5, 5, 9, 9}, {5, 5, 5, 9}, {6}};
        int[][] due = {{0, 1}, {0, 0, 1}, {0, 0, 0, 0}, {0, 0, 1, 1}, {0, 0, 0, 1}, {0}};
        for (int i = 0; i < some.length; i++) {
            BuoyReader x = heights(some[i]);
            x.mark(3, 0);
            isHigh("record " + i, x, due[i]);
        }
    }

    private static void leastRange() {
        on("LEAST (1 to 9; 2 at first)");
        BuoyReader x = new BuoyReader();
        is("at first", x.count(10), 2);
        is("0", x.set(3, 0), false);
        is("10", x.set(3, 10), false);
        is("still", x.count(10), 2);
        is("1", x.set(3, 1), true);
        is("it is 1", x.count(10), 1);
        is("9", x.set(3, 9), true);
        is("it is 9", x.count(10), 9);
        BuoyReader two = heights(8, 3, 8, 8);
        two.mark(0, 5);
        is("two at first", two.count(4), 1);
        is("one alone is none", two.wave(0, 10), NONE);
    }

    private static void leastAtLeast() {
        on("HIGH WAVES of one STRETCH, one behind the other, as many as can be, LEAST");
        for (int least = 1; least <= 9; least++) {
            int[] low = {3};
            BuoyReader x = heights(Records.join(Records.row(least - 1, 8), low, Records.row(least, 8), low,
                Records.row(least + 1, 8)));
            x.mark(0, 5);
            x.set(3, least);
            is("LEAST " + least, x.count(4), 2);
            is("LEAST " + least + ", one less is none", least == 1 ? NONE : x.wave(0, 10), NONE);
            is("LEAST " + least + ", as many", x.group(0, 0), least);
            is("LEAST " + least + ", as many", x.group(0, 1), least);
            is("LEAST " + least + ", one more", x.group(1, 1), least + 1);
        }
        BuoyReader all = full(-1, 1);
        is("all of 299", all.group(0, 1), 299);
        is("one GROUP", all.count(4), 1);
        is("the last of them", all.wave(298, 10), 0);
    }

    private static void groupsOfOneStretch() {
        on("A GROUP: HIGH WAVES of one STRETCH");
        BuoyReader x = of(-1, 1, -1, 1, GAP, GAP, GAP, -1, 1, -1, 1);
        is("WAVES", x.count(2), 2);
        is("one in each of two", x.count(4), 0);
        x.set(3, 1);
        is("LEAST 1", x.count(4), 2);
        x.set(3, 2);
        x.set(0, 3);
        is("in one STRETCH", x.count(4), 1);
    }

    private static void groupsFrom0() {
        on("LEAST (1 to 9; 2 at first) at least; numbered from 0 on");
        int[] some = Records.row(299, 8, 3);
        BuoyReader x = heights(some);
        x.mark(0, 5);
        x.set(3, 1);
        is("as many as there can be", x.count(4), 150);
        is("0 is the first", x.group(0, 0), 0);
        is("149 is the last", x.group(149, 0), 298);
        is("150 is none", x.group(150, 0), NONE);
        is("-1 is none", x.group(-1, 0), NONE);
        is("none at all", new BuoyReader().count(4), 0);
        is("none first", new BuoyReader().group(0, 0), NONE);
    }

    // ---- names

    private static void names() {
        nameRange();
        namesAtMost20();
        namesStay();
        oneEach();
        leastName();
    }

    private static void nameRange() {
        on("NAMES, 1 to 999");
        BuoyReader x = Records.five();
        is("0", x.name(0, 0), false);
        is("1000", x.name(0, 1000), false);
        is("-1", x.name(0, -1), false);
        is("none given", x.count(6), 0);
        is("1", x.name(0, 1), true);
        is("999", x.name(1, 999), true);
        is("the first has 1", x.sample(1, 5), 1);
        is("the second has 999", x.sample(3, 5), 999);
    }

    private static void namesAtMost20() {
        on("NAMES, 1 to 999, at most 20");
        BuoyReader x = heights(Records.row(22, 5));
        for (int w = 0; w < 19; w++) {
            x.name(w, 900 + w);
        }
        is("the 20th", x.name(19, 7), true);
        is("how many", x.count(6), 20);
        is("the 21st", x.name(20, 8), false);
        is("the 21st has none", x.wave(20, 11), NONE);
        is("still", x.count(6), 20);
        is("one goes", x.unname(900), 1);
        is("room for one", x.name(20, 8), true);
        is("for one alone", x.name(21, 9), false);
        is("two are forgotten with their NAMES", x.forget(6), 40);
        is("how many", x.count(6), 18);
        is("room again", x.name(18, 9), true);
        is("how many", x.count(6), 19);
    }

    private static void namesStay() {
        on("are given to a SAMPLE (the TOP of a WAVE) and stay with it");
        BuoyReader x = of(-9, 8, -1, 9, -9, 7, -9, 9);
        is("named", x.name(0, 5), true);
        is("the TOP has it", x.sample(1, 5), 5);
        x.set(1, 1);
        is("another TOP", x.wave(0, 5), 3);
        is("the SAMPLE has it still", x.sample(1, 5), 5);
        is("the new TOP has none", x.sample(3, 5), NONE);
        is("and can have one", x.name(0, 6), true);
        x.lens(2, 0);
        is("TURNED", x.sample(1, 5), 5);
        x.off();
        x.set(1, 500);
        is("without WAVES", x.sample(1, 5), 5);
        is("they count", x.count(6), 2);
        x.forget(1);
        is("it comes up with its SAMPLE", x.sample(0, 5), 5);
        is("so does the other", x.sample(2, 5), 6);
        x.forget(1);
        is("gone with its SAMPLE", x.count(6), 1);
    }

    private static void oneEach() {
        on("a SAMPLE has one at most, a NAME one SAMPLE");
        BuoyReader x = Records.five();
        is("a NAME", x.name(0, 5), true);
        is("a second for the SAMPLE", x.name(0, 6), false);
        is("a second SAMPLE for the NAME", x.name(1, 5), false);
        is("the same again", x.name(0, 5), false);
        is("one in all", x.count(6), 1);
        is("the SAMPLE has the first", x.sample(1, 5), 5);
        is("the other has none", x.sample(3, 5), NONE);
    }

    private static void leastName() {
        on("A WAVE bears the least NAME of those that its SAMPLES have");
        BuoyReader x = of(-9, 8, -1, 9, -1, 7, -9, 9);
        is("none", x.wave(0, 11), NONE);
        x.name(0, 500);
        x.name(1, 3);
        x.name(2, 999);
        is("its own", x.wave(0, 11), 500);
        x.set(1, 1);
        is("one WAVE", x.count(2), 1);
        is("the least of three", x.wave(0, 11), 3);
        x.unname(3);
        is("the least of two", x.wave(0, 11), 500);
        x.unname(500);
        is("the last", x.wave(0, 11), 999);
        x.unname(999);
        is("none again", x.wave(0, 11), NONE);
        BuoyReader tail = of(-9, 8, -9, 9, -9, 9);
        tail.name(1, 4);
        is("the NAME of the next is not its own", tail.wave(0, 11), NONE);
        tail.forget(3);
        is("what lies in the TAIL is no WAVE's", tail.count(2), 0);
    }
}
