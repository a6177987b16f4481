import java.util.Random;

/** Long runs of calls, told by a fixed seed, on BuoyReader and on PlainReader: they answer alike. */
public final class ModelTest {
    private static final int RUNS = 240;
    private static final int CALLS = 512;
    private static final int[] WIDTHS = {2, 8, 60, 700, 9999};
    private static final int[] STRANGE = {-1, -2, 600, 601, 1000, 10000, -10000, 99999, 100000, -32768, 32767,
        Integer.MAX_VALUE, Integer.MIN_VALUE, 501, 21, 300};

    private final Due due;
    private final Random random;
    private final int run;
    private final BuoyReader x = new BuoyReader();
    private final PlainReader y = new PlainReader();
    private final int width;
    private final int gapsOfHundred;
    private final int changesOfHundred;
    private final int swell;
    private int time = 0;
    private String call = "";

    private ModelTest(Due due, int run) {
        this.due = due;
        this.run = run;
        random = new Random(7919L * run + 13);
        width = WIDTHS[run % WIDTHS.length];
        gapsOfHundred = new int[] {0, 3, 15, 45}[random.nextInt(4)];
        changesOfHundred = new int[] {5, 20, 50}[random.nextInt(3)];
        swell = random.nextInt(4) == 0 ? 0 : 3 + random.nextInt(20);
    }

    public static void main(String[] args) {
        Due due = new Due();
        for (int run = 0; run < RUNS && due.wrong() == 0; run++) {
            new ModelTest(due, run).go();
        }
        due.end();
    }

    private void go() {
        // Every third record is long from the start, up to full, so that waves are many.
        int fours = run % 3 == 0 ? random.nextInt(155) : random.nextInt(20);
        for (int i = 0; i < CALLS && due.wrong() == 0; i++) {
            if (i < fours) {
                four();
            } else if (random.nextInt(100) < changesOfHundred) {
                change();
            } else {
                ask();
            }
        }
    }

    private int value() {
        if (random.nextInt(100) < gapsOfHundred) {
            return BuoyReader.GAP;
        }
        if (random.nextInt(400) == 0) {
            return STRANGE[random.nextInt(STRANGE.length)];
        }
        time++;
        double part = swell == 0 ? random.nextDouble() * 2 - 1
            : 0.7 * Math.sin(2 * Math.PI * time / swell) * (0.4 + 0.6 * Math.cos(time / 37.0))
                + 0.3 * (random.nextDouble() * 2 - 1);
        return (int) Math.round(part * width);
    }

    private int pick(int below) {
        if (random.nextInt(25) == 0) {
            return STRANGE[random.nextInt(STRANGE.length)];
        }
        return below < 1 ? random.nextInt(3) : random.nextInt(below + 1);
    }

    private void due(String text, long got, long want) {
        call = "run " + run + ": " + text;
        due.is(call, got, want);
    }

    private void due(String text, boolean got, boolean want) {
        due(text, got ? 1 : 0, want ? 1 : 0);
    }

    private void four() {
        long v = 0;
        for (int k = 0; k < 4; k++) {
            v = v << 16 | value() & 0xFFFF;
        }
        due("four(" + v + ")", x.four(v), y.four(v));
    }

    private int band() {
        return random.nextInt(4) == 0 ? pick(500) : pick(Math.min(500, width / 2 + 1));
    }

    private void change() {
        int kind = random.nextInt(100);
        if (kind < 25) {
            int v = value();
            due("heave(" + v + ")", x.heave(v), y.heave(v));
        } else if (kind < 35) {
            four();
        } else if (kind < 40) {
            int n = random.nextInt(8) == 0 ? pick(y.count(0)) : pick(4);
            due("forget(" + n + ")", x.forget(n), y.forget(n));
        } else if (kind < 58) {
            int what = random.nextInt(4);
            int v = what == 0 ? pick(21) : what == 1 ? band() : what == 2 ? 9 + pick(random.nextInt(42)) : pick(10);
            int w = random.nextInt(20) == 0 ? pick(9) : what;
            due("set(" + w + ", " + v + ")", x.set(w, v), y.set(w, v));
        } else if (kind < 66) {
            int rule = pick(3);
            int v = rule == 0 ? value() / 4 : random.nextInt(10) == 0 ? pick(9) : 0;
            due("level(" + rule + ", " + v + ")", x.level(rule, v), y.level(rule, v));
        } else if (kind < 74) {
            int mark = pick(4);
            int v = mark == 0 ? pick(2 * width) : random.nextInt(10) == 0 ? pick(9) : 0;
            due("mark(" + mark + ", " + v + ")", x.mark(mark, v), y.mark(mark, v));
        } else if (kind < 80) {
            int lens = pick(5);
            int n = lens == 1 ? pick(width) : lens == 2 ? random.nextInt(10) / 9 : pick(lens == 3 ? 31 : 10);
            due("lens(" + lens + ", " + n + ")", x.lens(lens, n), y.lens(lens, n));
        } else if (kind < 86) {
            due("off()", x.off(), y.off());
        } else if (kind < 95) {
            int wave = pick(y.count(2));
            int name = random.nextInt(3) == 0 ? pick(1001) : pick(25);
            due("name(" + wave + ", " + name + ")", x.name(wave, name), y.name(wave, name));
        } else {
            int name = pick(25);
            due("unname(" + name + ")", x.unname(name), y.unname(name));
        }
    }

    private void ask() {
        int kind = random.nextInt(14);
        int waves = y.count(2);
        int a = kind == 1 || kind == 2 ? pick(y.count(0)) : kind == 3 ? pick(y.count(1)) : pick(waves);
        int w = pick(6);
        switch (kind) {
            case 0: w = pick(16); due("count(" + w + ")", x.count(w), y.count(w)); break;
            case 1: due("sample(" + a + ", " + w + ")", x.sample(a, w), y.sample(a, w)); break;
            case 2: due("through(" + a + ", " + w + ")", x.through(a, w), y.through(a, w)); break;
            case 3: w = pick(8); due("stretch(" + a + ", " + w + ")", x.stretch(a, w), y.stretch(a, w)); break;
            case 4: w = pick(12); due("wave(" + a + ", " + w + ")", x.wave(a, w), y.wave(a, w)); break;
            case 5: due("ranked(" + a + ")", x.ranked(a), y.ranked(a)); break;
            case 6: a = pick(11); due("highest(" + a + ", " + w + ")", x.highest(a, w), y.highest(a, w)); break;
            case 7: a = pick(y.count(3)); due("freak(" + a + ")", x.freak(a), y.freak(a)); break;
            case 8: a = pick(y.count(4)); due("group(" + a + ", " + w + ")", x.group(a, w), y.group(a, w)); break;
            case 9: a = pick(y.count(4)) - random.nextInt(2); due("energy(" + a + ")", x.energy(a), y.energy(a)); break;
            case 10: a = pick(25); due("named(" + a + ")", x.named(a), y.named(a)); break;
            case 11: a = band(); due("would(" + a + ")", x.would(a), y.would(a)); break;
            case 12: due("quiet(" + a + ")", x.quiet(a), y.quiet(a)); break;
            default: due("gone(" + a + ")", x.gone(a), y.gone(a)); break;
        }
    }
}
