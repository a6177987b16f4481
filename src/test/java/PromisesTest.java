/** Each promise of the document by hand: ordinary inputs, the edges that it names, wrong inputs. */
public final class PromisesTest {
    private static final int NONE = BuoyReader.NONE;
    private static final int GAP = BuoyReader.GAP;
    private static final Due DUE = new Due();

    private PromisesTest() { }

    public static void main(String[] args) {
        newObject();
        heave();
        four();
        forget();
        set();
        level();
        mark();
        lens();
        off();
        count();
        sample();
        mending();
        through();
        lensesOneByOne();
        stretch();
        levels();
        crossings();
        wave();
        ranked();
        highest();
        freak();
        high();
        group();
        groupsEndWithTheirStretch();
        energy();
        name();
        unname();
        named();
        would();
        quiet();
        gone();
        goneByANarrowerBand();
        greatestNumbers();
        DUE.end();
    }

    private static void is(String call, long got, long want) {
        DUE.is(call, got, want);
    }

    private static void is(String call, boolean got, boolean want) {
        DUE.is(call, got, want);
    }

    private static BuoyReader of(int... heaves) {
        return Records.of(heaves);
    }

    private static BuoyReader five() {
        return Records.five();
    }

    private static BuoyReader heights(int... heights) {
        return Records.heights(heights);
    }

    private static long pack(int a, int b, int c, int d) {
        return Records.pack(a, b, c, d);
    }

    private static void newObject() {
        int[] due = {0, 0, 0, 0, 0, 0, 0, 2, 0, 20, 2, 0, 0, 0, 0, 0};
        BuoyReader x = new BuoyReader();
        for (int what = 0; what < due.length; what++) {
            is("1: new count(" + what + ")", x.count(what), due[what]);
        }
        is("1: new sample", x.sample(0, 0), NONE);
        is("1: new through", x.through(0, 0), GAP);
        is("1: new stretch", x.stretch(0, 0), NONE);
        is("1: new wave", x.wave(0, 0), NONE);
        is("1: new group", x.group(0, 0), NONE);
        is("1: new freak", x.freak(0), NONE);
        is("1: new gone", x.gone(0), NONE);
        is("1: NONE", BuoyReader.NONE, -1);
        is("1: GAP", BuoyReader.GAP, -32768);
    }

    private static void heave() {
        BuoyReader x = new BuoyReader();
        is("2: heave", x.heave(-9999), 1);
        is("2: heave", x.heave(9999), 2);
        is("2: heave", x.heave(GAP), 3);
        int[] others = {10000, -10000, -32767, -32769, 32768, Integer.MAX_VALUE, Integer.MIN_VALUE};
        for (int v : others) {
            is("2: heave(" + v + ")", x.heave(v), NONE);
        }
        is("2: none came", x.count(0), 3);
        Records.come(x, Records.row(592, 1));
        for (int i = 596; i <= 600; i++) {
            is("2: heave", x.heave(i), i);
        }
        is("2: heave beyond 600", x.heave(0), NONE);
        is("2: gap beyond 600", x.heave(GAP), NONE);
        is("2: 600 still", x.count(0), 600);
        is("2: the last stays", x.sample(599, 0), 600);
        x.forget(1);
        is("2: room again", x.heave(-3), 600);
        is("2: room again", x.sample(599, 0), -3);
    }

    private static void four() {
        BuoyReader x = new BuoyReader();
        is("3: four", x.four(pack(-9999, 9999, GAP, -1)), 4);
        is("3: highest first", x.sample(0, 0), -9999);
        is("3: second", x.sample(1, 0), 9999);
        is("3: third", x.sample(2, 0), GAP);
        is("3: last", x.sample(3, 0), -1);
        int[] others = {10000, -10000, -32767, 32767};
        for (int v : others) {
            is("3: " + v + " first", x.four(pack(v, 0, 0, 0)), NONE);
            is("3: " + v + " second", x.four(pack(0, v, 0, 0)), NONE);
            is("3: " + v + " third", x.four(pack(0, 0, v, 0)), NONE);
            is("3: " + v + " last", x.four(pack(0, 0, 0, v)), NONE);
        }
        is("3: none come", x.count(0), 4);
        is("3: four of 0", x.four(0), 8);
        is("3: four of -1", x.four(-1), 12);
        for (int i = 16; i <= 596; i += 4) {
            is("3: four", x.four(i), i);
        }
        x.heave(1);
        is("3: more than 600", x.four(0), NONE);
        is("3: none come", x.count(0), 597);
        x.forget(1);
        is("3: 600", x.four(pack(1, 2, 3, 4)), 600);
        is("3: full", x.four(0), NONE);
        is("3: last of 600", x.sample(599, 0), 4);
    }

    private static void forget() {
        BuoyReader x = of(1, GAP, 5, -3, 7, -3, 9);
        is("4: below 0", x.forget(-1), NONE);
        is("4: far below 0", x.forget(Integer.MIN_VALUE), NONE);
        is("4: not so many", x.forget(8), NONE);
        is("4: none", x.forget(0), 7);
        is("4: gap is mended", x.sample(1, 1), 3);
        is("4: name", x.name(0, 4), true);
        is("4: it lies", x.sample(4, 5), 4);
        is("4: forget", x.forget(1), 6);
        is("4: come up", x.sample(1, 0), 5);
        is("4: gap without heave ahead", x.sample(0, 1), GAP);
        is("4: stretch starts behind it", x.stretch(0, 0), 1);
        is("4: name comes up", x.sample(3, 5), 4);
        is("4: and no other has it", x.sample(4, 5), NONE);
        is("4: forget", x.forget(4), 2);
        is("4: with their names", x.count(6), 0);
        is("4: named", x.named(4), NONE);
        is("4: forget all", x.forget(2), 0);
        is("4: none left", x.count(1), 0);
        is("4: heave again", x.heave(3), 1);
        is("4: without a name", x.sample(0, 5), NONE);
    }

    private static void set() {
        int[] least = {0, 0, 10, 1};
        int[] most = {20, 500, 50, 9};
        int[] first = {2, 0, 20, 2};
        for (int what = 0; what < 4; what++) {
            BuoyReader x = new BuoyReader();
            String call = "5: set(" + what + ", ..)";
            is(call + " it is that", x.set(what, first[what]), false);
            is(call + " too low", x.set(what, least[what] - 1), false);
            is(call + " too great", x.set(what, most[what] + 1), false);
            is(call + " far off", x.set(what, Integer.MIN_VALUE), false);
            is(call + " far off", x.set(what, Integer.MAX_VALUE), false);
            is(call + " unchanged", x.count(7 + what), first[what]);
            is(call + " greatest", x.set(what, most[what]), true);
            is(call + " it is that", x.set(what, most[what]), false);
            is(call + " counts", x.count(7 + what), most[what]);
            is(call + " lowest", x.set(what, least[what]), true);
            is(call + " counts", x.count(7 + what), least[what]);
            for (int other = 0; other < 4; other++) {
                is(call + " others stay", x.count(7 + other), other == what ? least[what] : first[other]);
            }
        }
        BuoyReader x = new BuoyReader();
        is("5: another what", x.set(4, 5), false);
        is("5: another what", x.set(-1, 5), false);
        is("5: another what", x.set(Integer.MAX_VALUE, 5), false);
        is("5: another what", x.set(Integer.MIN_VALUE, 5), false);
    }

    private static void level() {
        BuoyReader x = of(1, 2, 9);
        is("6: it is that", x.level(0, 0), false);
        is("6: told", x.level(0, 9999), true);
        is("6: told", x.stretch(0, 2), 9999);
        is("6: told", x.level(0, -9999), true);
        is("6: told", x.stretch(0, 2), -9999);
        is("6: it is that", x.level(0, -9999), false);
        is("6: can't be", x.level(0, 10000), false);
        is("6: can't be", x.level(0, -10000), false);
        is("6: else 0", x.level(1, -9999), false);
        is("6: mean", x.level(1, 0), true);
        is("6: mean", x.stretch(0, 2), 4);
        is("6: it is that", x.level(1, 0), false);
        is("6: rule counts", x.count(11), 1);
        is("6: else 0", x.level(2, 1), false);
        is("6: middle", x.level(2, 0), true);
        is("6: middle", x.stretch(0, 2), 2);
        is("6: another rule", x.level(3, 0), false);
        is("6: another rule", x.level(-1, 0), false);
        is("6: another rule", x.level(Integer.MIN_VALUE, 0), false);
        is("6: rule stays", x.count(11), 2);
        is("6: told again", x.level(0, 0), true);
        is("6: told again", x.stretch(0, 2), 0);
    }

    private static void mark() {
        BuoyReader x = heights(4, 5);
        is("7: it is that", x.mark(0, 0), false);
        is("7: can't be", x.mark(0, -1), false);
        is("7: can't be", x.mark(0, 100000), false);
        is("7: told", x.mark(0, 99999), true);
        is("7: it is that", x.mark(0, 99999), false);
        is("7: none is high", x.wave(1, 9), 0);
        is("7: told", x.mark(0, 4), true);
        is("7: not above", x.wave(0, 9), 0);
        is("7: above", x.wave(1, 9), 1);
        for (int m = 1; m <= 3; m++) {
            is("7: else 0", x.mark(m, 4), false);
            is("7: mark", x.mark(m, 0), true);
            is("7: it is that", x.mark(m, 0), false);
            is("7: mark counts", x.count(12), m);
        }
        is("7: another mark", x.mark(4, 0), false);
        is("7: another mark", x.mark(-1, 0), false);
        is("7: another mark", x.mark(Integer.MAX_VALUE, 0), false);
        is("7: mark stays", x.count(12), 3);
        is("7: told again", x.mark(0, 0), true);
        is("7: mark counts", x.count(12), 0);
    }

    private static void lens() {
        int[] least = {1, 0, 0, 1, 1};
        int[] most = {5, 9999, 0, 30, 9};
        for (int kind = 0; kind < 5; kind++) {
            BuoyReader x = new BuoyReader();
            String call = "8: lens(" + kind + ", ..)";
            is(call + " too low", x.lens(kind, least[kind] - 1), NONE);
            is(call + " too great", x.lens(kind, most[kind] + 1), NONE);
            is(call + " far off", x.lens(kind, Integer.MIN_VALUE), NONE);
            is(call + " far off", x.lens(kind, Integer.MAX_VALUE), NONE);
            is(call + " lowest", x.lens(kind, least[kind]), 1);
            is(call + " greatest", x.lens(kind, most[kind]), 2);
            is(call + " counts", x.count(5), 2);
        }
        BuoyReader x = of(5);
        is("8: no such kind", x.lens(5, 1), NONE);
        is("8: no such kind", x.lens(-1, 1), NONE);
        is("8: no such kind", x.lens(Integer.MIN_VALUE, 0), NONE);
        is("8: no such kind", x.lens(Integer.MAX_VALUE, 0), NONE);
        for (int i = 1; i <= 4; i++) {
            is("8: lens", x.lens(2, 0), i);
            is("8: seen", x.sample(0, 2), i % 2 == 0 ? 5 : -5);
        }
        is("8: there are 4", x.lens(2, 0), NONE);
        is("8: there are 4", x.count(5), 4);
        is("8: seen", x.sample(0, 2), 5);
    }

    private static void off() {
        BuoyReader x = of(50);
        is("9: none", x.off(), NONE);
        x.lens(3, 5);
        x.lens(2, 0);
        x.lens(1, 3);
        is("9: seen", x.sample(0, 2), -3);
        is("9: the last goes", x.off(), 2);
        is("9: seen", x.sample(0, 2), -25);
        is("9: the last goes", x.off(), 1);
        is("9: seen", x.sample(0, 2), 25);
        is("9: the last goes", x.off(), 0);
        is("9: seen", x.sample(0, 2), 50);
        is("9: none", x.off(), NONE);
        is("9: counts", x.count(5), 0);
    }

    private static void count() {
        BuoyReader x = five();
        x.heave(GAP);
        x.heave(3);
        x.heave(GAP);
        x.heave(GAP);
        x.heave(GAP);
        x.heave(1);
        x.set(2, 10);
        x.set(3, 1);
        x.mark(1, 0);
        x.lens(1, 9999);
        x.name(2, 9);
        x.name(0, 8);
        // The mean height is 68 by 5: the waves 0, 2, 4 are high, each a group.
        int[] due = {18, 2, 5, 0, 3, 1, 2, 2, 0, 10, 1, 0, 1, 4, 1, 10};
        for (int what = 0; what < due.length; what++) {
            is("10: count(" + what + ")", x.count(what), due[what]);
        }
        is("10: another what", x.count(16), NONE);
        is("10: another what", x.count(-1), NONE);
        is("10: another what", x.count(Integer.MAX_VALUE), NONE);
        is("10: another what", x.count(Integer.MIN_VALUE), NONE);
    }

    private static void sample() {
        BuoyReader x = of(-4, GAP, 6, -3, 7, GAP, GAP, GAP, 5);
        x.lens(3, 20);
        x.name(0, 12);
        int[][] due = {
            {-4, -4, -8, 0, NONE, NONE},
            {GAP, 1, 2, 0, 0, NONE},
            {6, 6, 12, 0, 0, 12},
            {-3, -3, -6, 0, 0, NONE},
            {7, 7, 14, 0, NONE, NONE},
            {GAP, GAP, GAP, NONE, NONE, NONE},
            {GAP, GAP, GAP, NONE, NONE, NONE},
            {GAP, GAP, GAP, NONE, NONE, NONE},
            {5, 5, 10, 1, NONE, NONE},
        };
        for (int s = 0; s < due.length; s++) {
            for (int what = 0; what < 6; what++) {
                is("11: sample(" + s + ", " + what + ")", x.sample(s, what), due[s][what]);
            }
        }
        is("11: another what", x.sample(0, 6), NONE);
        is("11: another what", x.sample(0, -1), NONE);
        for (int what = -1; what <= 6; what++) {
            is("11: none such", x.sample(9, what), NONE);
            is("11: none such", x.sample(-1, what), NONE);
            is("11: none such", x.sample(600, what), NONE);
            is("11: none such", x.sample(Integer.MIN_VALUE, what), NONE);
            is("11: none such", x.sample(Integer.MAX_VALUE, what), NONE);
        }
        x.forget(9);
        is("11: gone", x.sample(0, 0), NONE);
        BuoyReader y = of(9999);
        y.lens(3, 30);
        y.lens(2, 0);
        is("11: a seen one below GAP", y.sample(0, 2), -29997);
        BuoyReader z = of(-8192);
        z.lens(3, 20);
        z.lens(3, 20);
        is("11: a seen one that is as GAP", z.sample(0, 2), GAP);
        is("11: it is not refused", z.sample(0, 3), 0);
        is("11: its level", z.stretch(0, 7), GAP);
    }

    private static void mending() {
        BuoyReader x = of(GAP, -7, GAP, GAP, 0, GAP, -1, GAP);
        is("11: no heave ahead", x.sample(0, 1), GAP);
        is("11: -14 by 3, down", x.sample(2, 1), -5);
        is("11: -7 by 3, down", x.sample(3, 1), -3);
        is("11: -1 by 2, down", x.sample(5, 1), -1);
        is("11: no heave behind", x.sample(7, 1), GAP);
        is("11: gaps", x.count(13), 5);
        is("11: mended", x.count(14), 3);
        x.heave(GAP);
        x.heave(10);
        is("11: a heave behind", x.sample(7, 1), 2);
        is("11: a heave behind", x.sample(8, 1), 6);
        x.set(0, 1);
        is("11: too many by MEND 1", x.sample(2, 1), GAP);
        is("11: few enough by MEND 1", x.sample(5, 1), -1);
        is("11: stretches by MEND 1", x.count(1), 3);
        x.set(0, 0);
        is("11: none by MEND 0", x.count(14), 0);
        is("11: stretches by MEND 0", x.count(1), 4);
        BuoyReader y = of(0);
        for (int i = 0; i < 20; i++) {
            y.heave(GAP);
        }
        y.heave(9999);
        is("11: 20 are refused", y.count(14), 0);
        y.set(0, 19);
        is("11: 20 are refused by MEND 19", y.count(14), 0);
        y.set(0, 20);
        is("11: 20 are mended by MEND 20", y.count(14), 20);
        is("11: first of 20", y.sample(1, 1), 476);
        is("11: last of 20", y.sample(20, 1), 9522);
    }

    private static void through() {
        BuoyReader x = of(10, GAP, GAP, GAP, -35, 7);
        x.lens(3, 3);
        x.lens(2, 0);
        is("12: behind none", x.through(4, 0), -35);
        is("12: behind one", x.through(4, 1), -11);
        is("12: behind all", x.through(4, 2), 11);
        is("12: too many", x.through(4, 3), GAP);
        is("12: below 0", x.through(4, -1), GAP);
        is("12: far off", x.through(4, Integer.MAX_VALUE), GAP);
        is("12: far off", x.through(4, Integer.MIN_VALUE), GAP);
        is("12: refused", x.through(1, 0), GAP);
        is("12: refused", x.through(2, 2), GAP);
        is("12: none such", x.through(6, 0), GAP);
        is("12: none such", x.through(-1, 0), GAP);
        is("12: none such", x.through(Integer.MIN_VALUE, 0), GAP);
        x.set(0, 3);
        is("12: mended, -5 by 4 down", x.through(1, 0), -2);
        is("12: mended, behind one", x.through(1, 1), -1);
    }

    private static void shows(String call, BuoyReader x, int... due) {
        for (int i = 0; i < due.length; i++) {
            is(call + " sample " + i, x.sample(i, 2), due[i]);
        }
    }

    private static void lensesOneByOne() {
        BuoyReader x = of(4, -9, 0, 5, 12, GAP, GAP, GAP, 7, -8);
        x.lens(0, 1);
        shows("12: MEAN of 1", x, -3, -2, -2, 5, 8, GAP, GAP, GAP, -1, -1);
        x.off();
        x.lens(0, 5);
        shows("12: MEAN of 5", x, 2, 2, 2, 2, 2, GAP, GAP, GAP, -1, -1);
        x.off();
        x.lens(0, 2);
        shows("12: MEAN of 2", x, -2, 0, 2, 2, 5, GAP, GAP, GAP, -1, -1);
        x.off();
        x.lens(1, 7);
        shows("12: CLIP at 7", x, 4, -7, 0, 5, 7, GAP, GAP, GAP, 7, -7);
        x.off();
        x.lens(1, 0);
        shows("12: CLIP at 0", x, 0, 0, 0, 0, 0, GAP, GAP, GAP, 0, 0);
        x.off();
        x.lens(2, 0);
        shows("12: TURN", x, -4, 9, 0, -5, -12, GAP, GAP, GAP, -7, 8);
        x.off();
        x.lens(3, 7);
        shows("12: SCALE by 7", x, 2, -7, 0, 3, 8, GAP, GAP, GAP, 4, -6);
        x.off();
        x.lens(4, 2);
        shows("12: LAG of 2", x, 0, 0, -4, 14, 12, GAP, GAP, GAP, 0, 0);
        x.lens(4, 9);
        shows("12: LAG of 9", x, 0, 0, 0, 0, 0, GAP, GAP, GAP, 0, 0);
        x.off();
        x.lens(1, 5);
        shows("12: CLIP upon LAG", x, 0, 0, -4, 5, 5, GAP, GAP, GAP, 0, 0);
        x.lens(0, 1);
        shows("12: MEAN upon both", x, 0, -2, 0, 2, 5, GAP, GAP, GAP, 0, 0);
    }

    private static void stretch() {
        BuoyReader x = of(GAP, 3, -2, 5, 6, -1, 2, GAP, GAP, GAP, 8, 4);
        int[][] due = {{1, 6, 0, 1, 2, 1, 6, -2}, {10, 2, 0, 0, 2, 0, 8, 4}};
        for (int s = 0; s < due.length; s++) {
            for (int what = 0; what < 8; what++) {
                is("13: stretch(" + s + ", " + what + ")", x.stretch(s, what), due[s][what]);
            }
            is("13: another what", x.stretch(s, 8), NONE);
            is("13: another what", x.stretch(s, -1), NONE);
        }
        is("13: none such", x.stretch(2, 0), NONE);
        is("13: none such", x.stretch(-1, 0), NONE);
        is("13: none such", x.stretch(300, 0), NONE);
        is("13: none such", x.stretch(Integer.MIN_VALUE, 0), NONE);
        BuoyReader y = of(-1, -1, 5, 5, 5);
        is("13: one crossing, no waves", y.stretch(0, 3), 0);
        is("13: one crossing, head", y.stretch(0, 4), 2);
        is("13: one crossing, tail", y.stretch(0, 5), 3);
        BuoyReader z = of(5, 6, -7, -3);
        is("13: no crossing, head is all", z.stretch(0, 4), 4);
        is("13: no crossing, tail", z.stretch(0, 5), 0);
        BuoyReader most = new BuoyReader();
        most.set(0, 0);
        for (int i = 0; i < 150; i++) {
            most.four(pack(1, GAP, 2, GAP));
        }
        is("13: 300 stretches", most.count(1), 300);
        is("13: the last", most.stretch(299, 0), 598);
        is("13: its length", most.stretch(299, 1), 1);
        is("13: no more", most.stretch(300, 0), NONE);
    }

    private static void levels() {
        BuoyReader x = of(-3, -4, 0, 1, GAP, GAP, GAP, 10, 30, 11);
        x.level(1, 0);
        is("13: mean, -6 by 4 down", x.stretch(0, 2), -2);
        is("13: mean of the other", x.stretch(1, 2), 17);
        x.level(2, 0);
        is("13: the lower one of two", x.stretch(0, 2), -3);
        is("13: the middle one", x.stretch(1, 2), 11);
        x.lens(2, 0);
        is("13: of the seen", x.stretch(0, 2), 0);
        x.level(1, 0);
        is("13: of the seen", x.stretch(0, 2), 1);
        is("13: of the seen", x.stretch(1, 2), -17);
    }

    private static void crossings() {
        BuoyReader x = of(-6, 5, 6, -5, 6, -6, 5, 4, 6, -6, 6);
        is("14: band 0", x.count(2), 3);
        x.set(1, 5);
        is("14: neither 5 nor -5 count", x.count(2), 2);
        is("14: first behind 5", x.wave(0, 0), 2);
        is("14: -5 ends none", x.wave(0, 1), 6);
        is("14: behind 5 again", x.wave(1, 0), 8);
        is("14: head", x.stretch(0, 4), 2);
        is("14: tail", x.stretch(0, 5), 1);
        x.set(1, 6);
        is("14: band 6", x.count(2), 0);
        is("14: all is head", x.stretch(0, 4), 11);
        BuoyReader y = of(2, -1, 0, 0, 3, 0, 2, -2, -1, 1);
        is("14: level itself is not above", y.wave(0, 0), 4);
        is("14: not below", y.wave(0, 1), 5);
        is("14: one wave", y.count(2), 1);
        y.level(0, 2);
        is("14: level 2", y.count(2), 0);
        is("14: level 2, head", y.stretch(0, 4), 4);
        BuoyReader z = of(5, -5, 5, GAP, GAP, GAP, 5, -5, 5);
        is("14: a stretch by itself", z.count(2), 0);
        is("14: head of the second", z.stretch(1, 4), 2);
    }

    private static void wave() {
        BuoyReader x = of(-3, 4, 9, 9, -2, -6, -6, 1, 2, -1, 8, GAP, GAP, GAP, -1, 1, -1, 2);
        x.level(0, -1);
        x.set(3, 1);
        x.mark(0, 3);
        int[][] due = {
            {1, 6, 15, 10, 5, 2, 0, 0, 0, 1, 0, NONE},
        };
        is("14: level -1", x.count(2), 1);
        for (int what = 0; what < 12; what++) {
            is("14: wave(0, " + what + ")", x.wave(0, what), due[0][what]);
        }
        x.level(0, 0);
        int[][] dueAt0 = {
            {1, 6, 15, 9, 6, 2, 0, 0, 0, 1, 0, NONE},
            {7, 3, 3, 2, 1, 8, 0, 1, 0, 0, NONE, 5},
            {15, 2, 2, 1, 1, 15, 1, 2, 0, 0, NONE, NONE},
        };
        x.name(1, 5);
        for (int w = 0; w < dueAt0.length; w++) {
            for (int what = 0; what < 12; what++) {
                is("14: wave(" + w + ", " + what + ")", x.wave(w, what), dueAt0[w][what]);
            }
            is("14: another what", x.wave(w, 12), NONE);
            is("14: another what", x.wave(w, -1), NONE);
        }
        is("14: none such", x.wave(3, 0), NONE);
        is("14: none such", x.wave(-1, 0), NONE);
        is("14: none such", x.wave(Integer.MAX_VALUE, 0), NONE);
        is("14: none such", x.wave(Integer.MIN_VALUE, 0), NONE);
        BuoyReader most = new BuoyReader();
        for (int i = 0; i < 150; i++) {
            most.four(pack(-1, 1, -1, 1));
        }
        is("14: 299 waves", most.count(2), 299);
        is("14: the last", most.wave(298, 0), 597);
        is("14: no more", most.wave(299, 0), NONE);
        is("14: samples of all", most.count(15), 598);
    }

    private static void ranked() {
        BuoyReader x = five();
        int[] due = {2, 0, 4, 1, 3};
        for (int rank = 0; rank < due.length; rank++) {
            is("15: ranked(" + rank + ")", x.ranked(rank), due[rank]);
            is("15: its rank", x.wave(due[rank], 7), rank);
        }
        is("15: none", x.ranked(5), NONE);
        is("15: none", x.ranked(-1), NONE);
        is("15: none", x.ranked(Integer.MAX_VALUE), NONE);
        is("15: none", x.ranked(Integer.MIN_VALUE), NONE);
    }

    private static void highest() {
        BuoyReader x = five();
        // Heights 30, 14, 14, 5, 5; all periods are 2.
        int[][] due = {{68, 5, 2, 1, 5}, {22, 1, 2, 1, 2}, {30, 1, 2, 1, 1}};
        for (int part = 1; part <= 10; part++) {
            for (int what = 0; what < 5; what++) {
                is("16: highest(" + part + ", " + what + ")", x.highest(part, what), due[Math.min(part, 3) - 1][what]);
            }
            is("16: another what", x.highest(part, 5), NONE);
            is("16: another what", x.highest(part, -1), NONE);
        }
        is("16: another part", x.highest(0, 0), NONE);
        is("16: another part", x.highest(11, 4), NONE);
        is("16: another part", x.highest(-1, 0), NONE);
        is("16: another part", x.highest(Integer.MIN_VALUE, 0), NONE);
        is("16: another part", x.highest(Integer.MAX_VALUE, 0), NONE);
        BuoyReader y = of(-1, 1, 1, -1, 5, -5, 2, 2, 2, -5, 1);
        is("16: periods 3, 2, 4 above", y.highest(1, 2), 3);
        is("16: periods below", y.highest(1, 3), 1);
        is("16: heights 2, 10, 7 above", y.highest(1, 0), 19);
        is("16: heights below", y.highest(1, 1), 3);
        is("16: period of the highest", y.highest(2, 2), 2);
        BuoyReader none = of(1, -1, 1);
        int[] dueOfNone = {0, 1, 0, 1, 0};
        for (int what = 0; what < 5; what++) {
            is("16: without waves", none.highest(10, what), dueOfNone[what]);
        }
    }

    private static void freak() {
        BuoyReader x = heights(10, 10, 21, 10, 40, 10, 10, 30, 10);
        // The highest of part 3 are 40, 30, 21: their mean is 91 by 3.
        is("17: no freak by 20 tenths", x.count(3), 0);
        is("17: none", x.freak(0), NONE);
        x.set(2, 10);
        is("17: by 10 tenths", x.count(3), 1);
        is("17: the first", x.freak(0), 4);
        is("17: not so many", x.freak(1), NONE);
        is("17: not so many", x.freak(-1), NONE);
        is("17: not so many", x.freak(Integer.MAX_VALUE), NONE);
        is("17: not so many", x.freak(Integer.MIN_VALUE), NONE);
        is("17: it is a freak", x.wave(4, 8), 1);
        is("17: it is none", x.wave(7, 8), 0);
        x.set(2, 13);
        is("17: 400 is above 13 times 91 by 3", x.count(3), 1);
        x.set(2, 14);
        is("17: 400 is not above 14 times 91 by 3", x.count(3), 0);
        BuoyReader y = heights(2, 30, 2, 2, 40, 30, 2, 2, 2, 2, 2, 2);
        // The highest of part 3 are 40, 30, 30, 2: their mean is 102 by 4.
        y.set(2, 10);
        is("17: three by rank", y.count(3), 3);
        is("17: first", y.freak(0), 4);
        is("17: second, of like ones the first", y.freak(1), 1);
        is("17: third", y.freak(2), 5);
        is("17: no fourth", y.freak(3), NONE);
        BuoyReader z = heights(4, 6, 20, 4, 4, 4);
        // The highest of part 3 are 20 and 6: mean 13. 20 is not above 16 tenths of it, above 15.
        z.set(2, 16);
        is("17: 20 against 20.8", z.count(3), 0);
        z.set(2, 15);
        is("17: 20 against 19.5", z.count(3), 1);
        BuoyReader like = heights(10, 30, 10, 10, 10, 10);
        like.set(2, 15);
        is("17: as high is not above", like.count(3), 0);
        like.set(2, 14);
        is("17: above", like.count(3), 1);
    }

    private static void isHigh(String call, BuoyReader x, int... due) {
        for (int w = 0; w < due.length; w++) {
            is(call + " wave " + w, x.wave(w, 9), due[w]);
        }
    }

    private static void high() {
        BuoyReader x = heights(3, 9, 4, 8, 6, 7);
        isHigh("14: MARK 0 at 0", x, 1, 1, 1, 1, 1, 1);
        x.mark(0, 6);
        isHigh("14: MARK 0 at 6", x, 0, 1, 0, 1, 0, 1);
        x.mark(1, 0);
        isHigh("14: above 37 by 6", x, 0, 1, 0, 1, 0, 1);
        x.mark(2, 0);
        isHigh("14: above 17 by 2", x, 0, 1, 0, 0, 0, 0);
        x.mark(3, 0);
        isHigh("14: above 6", x, 0, 1, 0, 1, 0, 1);
        BuoyReader y = heights(5, 5, 2, 8, 5);
        y.mark(1, 0);
        isHigh("14: above 5", y, 0, 0, 0, 1, 0);
        y.mark(3, 0);
        isHigh("14: above the middle one", y, 0, 0, 0, 1, 0);
        BuoyReader z = heights(4, 7);
        z.mark(3, 0);
        isHigh("14: above the lower one of two", z, 0, 1);
    }

    private static void group() {
        BuoyReader x = heights(9, 8, 2, 9, 2, 7, 9, 9, 2, 2, 8, 9);
        x.mark(0, 5);
        int[][] due = {{0, 2, 0, 5, 4}, {5, 3, 6, 5, 6}, {10, 2, 11, NONE, 4}};
        is("18: groups", x.count(4), 3);
        for (int g = 0; g < due.length; g++) {
            for (int what = 0; what < 5; what++) {
                is("18: group(" + g + ", " + what + ")", x.group(g, what), due[g][what]);
            }
            is("18: another what", x.group(g, 5), NONE);
            is("18: another what", x.group(g, -1), NONE);
        }
        is("18: none such", x.group(3, 0), NONE);
        is("18: none such", x.group(-1, 0), NONE);
        is("18: none such", x.group(Integer.MAX_VALUE, 0), NONE);
        is("18: none such", x.group(Integer.MIN_VALUE, 0), NONE);
        int[] groupOf = {0, 0, NONE, NONE, NONE, 1, 1, 1, NONE, NONE, 2, 2};
        for (int w = 0; w < groupOf.length; w++) {
            is("18: group of wave " + w, x.wave(w, 10), groupOf[w]);
        }
        x.set(3, 1);
        is("18: LEAST 1", x.count(4), 4);
        is("18: the one of one", x.group(1, 0), 3);
        is("18: the one of one", x.group(1, 1), 1);
        x.set(3, 3);
        is("18: LEAST 3", x.count(4), 1);
        x.set(3, 4);
        is("18: LEAST 4", x.count(4), 0);
    }

    private static void groupsEndWithTheirStretch() {
        BuoyReader x = of(-1, 3, -1, 3, -1, 3, GAP, GAP, GAP, -1, 4, -1, 5, -1, 5);
        is("18: two stretches", x.count(1), 2);
        is("18: two groups", x.count(4), 2);
        is("18: WAVES to the next", x.group(0, 3), 2);
        is("18: the second", x.group(1, 0), 2);
        is("18: the one of the least rank", x.group(1, 2), 3);
        x.set(3, 3);
        is("18: none across stretches", x.count(4), 0);
    }

    private static void energy() {
        BuoyReader x = heights(9, 8, 2, 9, 2, 7, 9, 9);
        x.mark(0, 5);
        is("19: first", x.energy(0), 145);
        is("19: second", x.energy(1), 211);
        is("19: all", x.energy(NONE), 445);
        is("19: none such", x.energy(2), -1);
        is("19: none such", x.energy(-2), -1);
        is("19: none such", x.energy(Integer.MAX_VALUE), -1);
        is("19: none such", x.energy(Integer.MIN_VALUE), -1);
        is("19: without waves", of(1, 2).energy(NONE), 0);
        is("19: without groups", of(1, 2).energy(0), -1);
    }

    private static void name() {
        BuoyReader x = five();
        is("20: no such wave", x.name(5, 3), false);
        is("20: no such wave", x.name(-1, 3), false);
        is("20: no such name", x.name(0, 0), false);
        is("20: no such name", x.name(0, 1000), false);
        is("20: no such name", x.name(0, -1), false);
        is("20: no such name", x.name(0, Integer.MIN_VALUE), false);
        is("20: none was given", x.count(6), 0);
        is("20: name", x.name(0, 999), true);
        is("20: it has one", x.name(0, 3), false);
        is("20: another has it", x.name(1, 999), false);
        is("20: it itself has it", x.name(0, 999), false);
        is("20: name", x.name(1, 1), true);
        is("20: the top has it", x.sample(1, 5), 999);
        is("20: the top has it", x.sample(3, 5), 1);
        BuoyReader y = new BuoyReader();
        for (int i = 0; i < 24; i++) {
            y.heave(-1);
            y.heave(1);
        }
        for (int w = 0; w < 20; w++) {
            is("20: name", y.name(w, 100 + w), true);
        }
        is("20: there are 20", y.name(20, 99), false);
        is("20: there are 20", y.count(6), 20);
        is("20: unname", y.unname(107), 15);
        is("20: room again", y.name(20, 99), true);
        is("20: there are 20", y.name(21, 98), false);
        y.forget(2);
        is("20: one was forgotten", y.count(6), 19);
        is("20: room again", y.name(20, 98), true);
    }

    private static void unname() {
        BuoyReader x = five();
        x.name(2, 40);
        x.name(0, 41);
        is("21: the sample", x.unname(40), 5);
        is("21: none has", x.unname(40), NONE);
        is("21: none has", x.unname(0), NONE);
        is("21: none has", x.unname(-1), NONE);
        is("21: none has", x.unname(1000), NONE);
        is("21: none has", x.unname(Integer.MIN_VALUE), NONE);
        is("21: gone", x.sample(5, 5), NONE);
        is("21: the other stays", x.sample(1, 5), 41);
        is("21: counts", x.count(6), 1);
        is("21: free again", x.name(4, 40), true);
        is("21: the sample", x.unname(40), 9);
    }

    private static void named() {
        BuoyReader x = five();
        x.name(0, 30);
        x.name(1, 20);
        is("22: wave", x.named(30), 0);
        is("22: wave", x.named(20), 1);
        is("22: none has it", x.named(21), NONE);
        is("22: none has it", x.named(0), NONE);
        is("22: none has it", x.named(-1), NONE);
        x.set(1, 3);
        // By band 3 the crossings are at 5 and 9, so that both tops lie in the head.
        is("22: one wave by band 3", x.count(2), 1);
        is("22: in the head", x.named(30), NONE);
        is("22: in the head", x.named(20), NONE);
        x.set(1, 500);
        is("22: in none", x.named(30), NONE);
        is("22: it has it still", x.sample(1, 5), 30);
        x.set(1, 0);
        is("22: back", x.named(30), 0);
        x.forget(1);
        is("22: in the head", x.named(30), NONE);
        is("22: come up", x.named(20), 0);
        BuoyReader y = of(-9, 8, -1, 9, -1, 7, -9, 9);
        y.name(1, 7);
        y.name(0, 8);
        y.name(2, 6);
        y.set(1, 1);
        is("22: one wave", y.count(2), 1);
        is("14: the least of three", y.wave(0, 11), 6);
        y.unname(6);
        is("14: the least of two", y.wave(0, 11), 7);
        is("22: in the one", y.named(8), 0);
        BuoyReader gap = of(-9, -9, -9, 9, GAP, 9, -9, -9, -9, 9, 9);
        gap.lens(0, 1);
        // Seen: -9, -9, -3, 3, 9, 3, -3, -9, -3, 3, 9.
        is("22: the top is mended", gap.wave(0, 5), 4);
        is("22: it has a name", gap.name(0, 77), true);
        gap.set(0, 0);
        is("22: a refused one keeps its name", gap.sample(4, 5), 77);
        is("22: it is in no wave", gap.named(77), NONE);
        is("22: it counts", gap.count(6), 1);
        is("22: unname", gap.unname(77), 4);
    }

    private static void would() {
        BuoyReader x = five();
        // By 1 the crossings are at 3, 5, 9; by 2 at 3, 9; by 3 to 6 at 5, 9; by 7 and 8 at 9.
        int[] due = {5, 2, 1, 1, 1, 1, 1, 0, 0, 0, 0};
        for (int band = 0; band < due.length; band++) {
            is("23: would(" + band + ")", x.would(band), due[band]);
            if (band > 0) {
                is("23: set(1, " + band + ")", x.set(1, band), true);
                is("23: so it is", x.count(2), due[band]);
            }
        }
        is("23: the band stays", x.count(8), 10);
        is("23: narrower", x.would(0), 5);
        is("23: none", x.would(500), 0);
        is("23: can't be", x.would(501), NONE);
        is("23: can't be", x.would(-1), NONE);
        is("23: can't be", x.would(Integer.MIN_VALUE), NONE);
        is("23: can't be", x.would(Integer.MAX_VALUE), NONE);
    }

    private static void quiet() {
        BuoyReader x = five();
        is("24: 5 at most", x.quiet(5), 0);
        is("24: 4 at most", x.quiet(4), 1);
        is("24: 2 at most", x.quiet(2), 1);
        is("24: 1 at most", x.quiet(1), 2);
        is("24: 0 at most", x.quiet(0), 7);
        is("24: below 0", x.quiet(-1), NONE);
        is("24: below 0", x.quiet(Integer.MIN_VALUE), NONE);
        is("24: many", x.quiet(Integer.MAX_VALUE), 0);
        for (int n = 0; n < 6; n++) {
            int band = x.quiet(n);
            is("24: few enough", x.would(band) <= n, true);
            is("24: the least", band == 0 || x.would(band - 1) > n, true);
        }
        BuoyReader edge = of(-500, 500, -500, 500);
        is("24: by 500", edge.quiet(0), 500);
        BuoyReader beyond = of(-501, 501, -501, 501);
        is("24: by none", beyond.quiet(0), NONE);
        is("24: one at most", beyond.quiet(1), 0);
    }

    private static void gone() {
        BuoyReader x = five();
        // By 2 the low one ahead of the 20 is within the band, and the 3 ahead of that isn't. By 4 the
        // low one ahead of the last 9 is within it too, but then the -10 further ahead counts.
        int[] due = {1, 3, 2, 1, 9};
        for (int w = 0; w < due.length; w++) {
            is("25: gone(" + w + ")", x.gone(w), due[w]);
        }
        is("25: none such", x.gone(5), NONE);
        is("25: none such", x.gone(-1), NONE);
        is("25: none such", x.gone(Integer.MAX_VALUE), NONE);
        is("25: none such", x.gone(Integer.MIN_VALUE), NONE);
        is("25: by 500", of(-500, 501, -600, 501).gone(0), 500);
        is("25: by none", of(-501, 501, -600, 501).gone(0), NONE);
    }

    private static void goneByANarrowerBand() {
        BuoyReader x = of(-10, 3, 7, -10, 8);
        x.set(1, 5);
        is("25: it begins at 2", x.wave(0, 0), 2);
        is("25: by 0 the crossing lies ahead", x.gone(0), 0);
        BuoyReader y = of(-10, 3, 7, -2, 9, -10, 8);
        is("25: by 0 it begins at 1", y.wave(0, 0), 1);
        is("25: it moves to the 7, then away", y.gone(0), 7);
        y.set(1, 2);
        is("25: as one", y.wave(0, 1), 5);
        is("25: to the 9, in the wave as it is", y.gone(0), 9);
        BuoyReader z = of(-3, 2, -1, 9, -10, 4, 9, -5, 9);
        is("25: wave 1 begins at 3", z.wave(1, 0), 3);
        is("25: by 1 the crossing lies ahead", z.gone(1), 1);
        is("25: by 2 it lies in it again", z.would(2) == 2 && z.set(1, 2) && z.wave(0, 0) == 3, true);
    }

    private static void greatestNumbers() {
        BuoyReader x = new BuoyReader();
        for (int i = 0; i < 150; i++) {
            x.four(pack(-9999, 9999, -9999, 9999));
        }
        for (int i = 0; i < 4; i++) {
            x.lens(3, 30);
        }
        is("16: sum of 299 heights above", x.highest(1, 0), 1619838);
        is("16: below", x.highest(1, 1), 1);
        is("19: energy", x.energy(NONE), 299L * 1619838 * 1619838);
        is("17: no freak", x.count(3), 0);
        x.set(2, 50);
        is("17: no freak by 50 tenths", x.count(3), 0);
        x.mark(1, 0);
        is("14: as high as the mean", x.count(4), 0);
        x.mark(0, 99999);
        is("18: all are high", x.group(0, 1), 299);
        is("23: by 500", x.would(500), 299);
        is("24: by none", x.quiet(298), NONE);
        is("25: by none", x.gone(0), NONE);
    }
}
