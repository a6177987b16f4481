/**
 * A wave buoy's reader. What it promises stands in ../shared/DOC.md; the words of the comments here
 * are that document's.
 *
 * Rows of numbers are made once, in the constructors, and used again by every call: no call makes an
 * object. Changes only mark the reading as stale; the next question reads the record anew.
 */
public final class BuoyReader {
    /** There is none. */
    public static final int NONE = -1;
    /** What no heave is. */
    public static final int GAP = -32768;

    private static final int MOST_SAMPLES = 600;
    // Between two stretches lies a refused sample, and a wave has a high and a low sample at least.
    private static final int MOST_STRETCHES = 300;
    private static final int MOST_WAVES = 300;
    private static final int MOST_LENSES = 4;
    private static final int MOST_NAMES = 20;
    private static final int GREATEST_NAME = 999;
    private static final int GREATEST_HEAVE = 9999;
    private static final int GREATEST_MARK = 99999;
    private static final int WIDEST_BAND = 500;

    private final Settings settings;
    private final LensRow lenses;
    private final Samples samples;
    private final Stretches stretches;
    private final Waves waves;
    private final Ranking ranking;
    private final Groups groups;
    private final Sorter sorter;
    private boolean stale;

    public BuoyReader() {
        settings = new Settings();
        lenses = new LensRow();
        samples = new Samples();
        stretches = new Stretches();
        waves = new Waves();
        ranking = new Ranking();
        groups = new Groups();
        sorter = new Sorter();
        stale = true;
    }

    // ---- the record

    public int heave(int v) {
        if (!Samples.canCome(v) || samples.room() < 1) {
            return NONE;
        }
        samples.add(v);
        stale = true;
        return samples.size;
    }

    public int four(long v) {
        int a = (short) (v >> 48);
        int b = (short) (v >> 32);
        int c = (short) (v >> 16);
        int d = (short) v;
        boolean allCan = Samples.canCome(a) && Samples.canCome(b) && Samples.canCome(c) && Samples.canCome(d);
        if (!allCan || samples.room() < 4) {
            return NONE;
        }
        samples.add(a);
        samples.add(b);
        samples.add(c);
        samples.add(d);
        stale = true;
        return samples.size;
    }

    public int forget(int n) {
        if (n < 0 || n > samples.size) {
            return NONE;
        }
        samples.drop(n);
        stale = true;
        return samples.size;
    }

    // ---- how it is read

    public boolean set(int what, int v) {
        return changed(settings.changeNumber(what, v));
    }

    public boolean level(int rule, int v) {
        return changed(settings.changeRule(rule, v));
    }

    public boolean mark(int mark, int v) {
        return changed(settings.changeMark(mark, v));
    }

    public int lens(int kind, int n) {
        if (!LensRow.canBe(kind, n) || lenses.size >= MOST_LENSES) {
            return NONE;
        }
        lenses.lay(kind, n);
        stale = true;
        return lenses.size;
    }

    public int off() {
        if (lenses.size < 1) {
            return NONE;
        }
        lenses.takeOff();
        stale = true;
        return lenses.size;
    }

    public int count(int what) {
        refresh();
        switch (what) {
            case 0: return samples.size;
            case 1: return stretches.size;
            case 2: return waves.size;
            case 3: return ranking.freaks;
            case 4: return groups.size;
            case 5: return lenses.size;
            case 6: return samples.namesGiven();
            case 7: return settings.mend();
            case 8: return settings.band();
            case 9: return settings.factor();
            case 10: return settings.least();
            case 11: return settings.rule;
            case 12: return settings.markRule;
            case 13: return stretches.gaps;
            case 14: return stretches.mended;
            case 15: return waves.periodsFrom(0, waves.size);
            default: return NONE;
        }
    }

    // ---- samples, stretches

    public int sample(int sample, int what) {
        if (!samples.has(sample)) {
            return NONE;
        }
        refresh();
        switch (what) {
            case 0: return samples.came[sample];
            case 1: return stretches.shownBehind(sample, 0);
            case 2: return stretches.shownBehind(sample, lenses.size);
            case 3: return stretches.stretchOf[sample];
            case 4: return waves.waveOf[sample];
            case 5: return samples.nameAt(sample);
            default: return NONE;
        }
    }

    public int through(int sample, int lenses) {
        if (!samples.has(sample) || lenses < 0 || lenses > this.lenses.size) {
            return GAP;
        }
        refresh();
        return stretches.shownBehind(sample, lenses);
    }

    public int stretch(int stretch, int what) {
        refresh();
        if (!stretches.has(stretch)) {
            return NONE;
        }
        switch (what) {
            case 0: return stretches.first[stretch];
            case 1: return stretches.length[stretch];
            case 2: return stretches.levels[stretch];
            case 3: return waves.wavesIn[stretch];
            case 4: return waves.head[stretch];
            case 5: return waves.tail[stretch];
            case 6: return stretches.seen[stretches.topIn(stretches.first[stretch], stretches.endOf(stretch))];
            case 7: return stretches.leastIn(stretches.first[stretch], stretches.endOf(stretch));
            default: return NONE;
        }
    }

    // ---- waves

    public int wave(int wave, int what) {
        refresh();
        if (!waves.has(wave)) {
            return NONE;
        }
        switch (what) {
            case 0: return waves.first[wave];
            case 1: return waves.period[wave];
            case 2: return waves.height[wave];
            case 3: return waves.crest[wave];
            case 4: return waves.height[wave] - waves.crest[wave];
            case 5: return waves.top[wave];
            case 6: return waves.stretchOf[wave];
            case 7: return ranking.rankOf[wave];
            case 8: return ranking.rankOf[wave] < ranking.freaks ? 1 : 0;
            case 9: return ranking.isHigh(waves, wave, settings) ? 1 : 0;
            case 10: return groups.groupOf[wave];
            case 11: return samples.leastNameIn(waves.first[wave], waves.endOf(wave));
            default: return NONE;
        }
    }

    public int ranked(int rank) {
        refresh();
        return waves.has(rank) ? ranking.order[rank] : NONE;
    }

    public int highest(int part, int what) {
        if (part < 1 || part > 10 || what < 0 || what > 4) {
            return NONE;
        }
        refresh();
        int many = Ranking.partOf(waves.size, part);
        if (what == 4) {
            return many;
        }
        int sum = what < 2 ? ranking.heightsOfHighest(waves, many) : ranking.periodsOfHighest(waves, many);
        int by = Math.max(1, many);
        int common = Math.max(1, commonDivisor(sum, by));
        return what % 2 == 0 ? sum / common : by / common;
    }

    public int freak(int k) {
        refresh();
        // A freak is higher than any wave that is none, so the freaks have the least ranks.
        return k >= 0 && k < ranking.freaks ? ranking.order[k] : NONE;
    }

    public int group(int group, int what) {
        refresh();
        if (!groups.has(group)) {
            return NONE;
        }
        int first = groups.first[group];
        int end = first + groups.length[group];
        switch (what) {
            case 0: return first;
            case 1: return groups.length[group];
            case 2: return ranking.leastRankIn(first, end);
            case 3: return groups.has(group + 1) ? groups.first[group + 1] - first : NONE;
            case 4: return waves.periodsFrom(first, end);
            default: return NONE;
        }
    }

    public long energy(int group) {
        refresh();
        if (group == NONE) {
            return waves.squaresFrom(0, waves.size);
        }
        if (!groups.has(group)) {
            return -1;
        }
        int first = groups.first[group];
        return waves.squaresFrom(first, first + groups.length[group]);
    }

    // ---- names

    public boolean name(int wave, int name) {
        refresh();
        if (!waves.has(wave) || name < 1 || name > GREATEST_NAME) {
            return false;
        }
        int top = waves.top[wave];
        if (samples.nameAt(top) != NONE || samples.bearerOf(name) != NONE) {
            return false;
        }
        if (samples.namesGiven() >= MOST_NAMES) {
            return false;
        }
        samples.names[top] = name;
        return true;
    }

    public int unname(int name) {
        int bearer = samples.bearerOf(name);
        if (bearer != NONE) {
            samples.names[bearer] = 0;
        }
        return bearer;
    }

    public int named(int name) {
        refresh();
        int bearer = samples.bearerOf(name);
        return bearer == NONE ? NONE : waves.waveOf[bearer];
    }

    // ---- what would be

    public int would(int band) {
        if (band < 0 || band > WIDEST_BAND) {
            return NONE;
        }
        refresh();
        return stretches.wavesBy(band);
    }

    public int quiet(int n) {
        if (n < 0) {
            return NONE;
        }
        refresh();
        // A wider band never makes more waves: its crossings, each with the low one ahead of it, are
        // high and low by a narrower band too. So the least band can be found by halving.
        int from = 0;
        int to = WIDEST_BAND + 1;
        for (int halvings = 0; halvings <= WIDEST_BAND && from < to; halvings++) {
            int middle = (from + to) / 2;
            if (stretches.wavesBy(middle) <= n) {
                to = middle;
            } else {
                from = middle + 1;
            }
        }
        return from > WIDEST_BAND ? NONE : from;
    }

    public int gone(int wave) {
        refresh();
        if (!waves.has(wave)) {
            return NONE;
        }
        int band = 0;
        // Not by halving: by a narrower band the crossing may lie ahead of the wave as it is now.
        for (int tries = 0; tries <= WIDEST_BAND && band <= WIDEST_BAND; tries++) {
            int wider = stretches.bandAgainst(waves.stretchOf[wave], waves.first[wave], waves.endOf(wave), band);
            if (wider == band) {
                return band;
            }
            band = wider;
        }
        return NONE;
    }

    private boolean changed(boolean is) {
        if (is) {
            stale = true;
        }
        return is;
    }

    private void refresh() {
        if (!stale) {
            return;
        }
        stale = false;
        stretches.mendGaps(samples, settings.mend());
        stretches.split(samples.size);
        stretches.lookThrough(lenses);
        stretches.findLevels(settings, sorter);
        waves.find(stretches, samples.size, settings.band());
        ranking.rank(waves, sorter);
        ranking.weigh(waves, settings);
        groups.find(waves, ranking, settings);
    }

    private static int commonDivisor(int a, int b) {
        int greater = a;
        int lesser = b;
        // Two steps halve the greater one at least, so 64 are enough for any int.
        for (int steps = 0; steps < 64 && lesser != 0; steps++) {
            int rest = greater % lesser;
            greater = lesser;
            lesser = rest;
        }
        return greater;
    }

    private static int meanDown(long sum, int many) {
        return many < 1 ? 0 : (int) Math.floorDiv(sum, (long) many);
    }

    /** The numbers by which a record is read. */
    private static final class Settings {
        private static final int[] LOWEST = {0, 0, 10, 1};
        private static final int[] GREATEST = {20, WIDEST_BAND, 50, 9};

        private final int[] numbers = {2, 0, 20, 2};
        int rule;
        int levelTold;
        int markRule;
        int markTold;

        int mend() {
            return numbers[0];
        }

        int band() {
            return numbers[1];
        }

        int factor() {
            return numbers[2];
        }

        int least() {
            return numbers[3];
        }

        boolean changeNumber(int what, int v) {
            if (what < 0 || what >= numbers.length) {
                return false;
            }
            if (v < LOWEST[what] || v > GREATEST[what] || v == numbers[what]) {
                return false;
            }
            numbers[what] = v;
            return true;
        }

        boolean changeRule(int newRule, int v) {
            boolean can = newRule == 0 ? v >= -GREATEST_HEAVE && v <= GREATEST_HEAVE : v == 0;
            if (newRule < 0 || newRule > 2 || !can || (newRule == rule && v == levelTold)) {
                return false;
            }
            rule = newRule;
            levelTold = v;
            return true;
        }

        boolean changeMark(int newMark, int v) {
            boolean can = newMark == 0 ? v >= 0 && v <= GREATEST_MARK : v == 0;
            if (newMark < 0 || newMark > 3 || !can || (newMark == markRule && v == markTold)) {
                return false;
            }
            markRule = newMark;
            markTold = v;
            return true;
        }
    }

    /** The lenses in the order in which they were laid on. */
    private static final class LensRow {
        private static final int MEAN = 0;
        private static final int CLIP = 1;
        private static final int TURN = 2;
        private static final int SCALE = 3;
        private static final int LAG = 4;
        private static final int[] LEAST_N = {1, 0, 0, 1, 1};
        private static final int[] GREATEST_N = {5, GREATEST_HEAVE, 0, 30, 9};

        private final int[] kinds = new int[MOST_LENSES];
        private final int[] ns = new int[MOST_LENSES];
        int size;

        static boolean canBe(int kind, int n) {
            return kind >= 0 && kind < LEAST_N.length && n >= LEAST_N[kind] && n <= GREATEST_N[kind];
        }

        void lay(int kind, int n) {
            if (size >= kinds.length) {
                return;
            }
            kinds[size] = kind;
            ns[size] = n;
            size++;
        }

        void takeOff() {
            if (size > 0) {
                size--;
            }
        }

        /** Shows the samples from first to ahead of end, which are one stretch, through one lens. */
        void show(int lens, int[] from, int[] to, int first, int end) {
            if (lens < 0 || lens >= size) {
                return;
            }
            int n = ns[lens];
            if (kinds[lens] == MEAN) {
                showMean(from, to, first, end, n);
                return;
            }
            for (int i = first; i < end; i++) {
                switch (kinds[lens]) {
                    case CLIP: to[i] = Math.max(-n, Math.min(n, from[i])); break;
                    case TURN: to[i] = -from[i]; break;
                    case SCALE: to[i] = Math.floorDiv(from[i] * n, 10); break;
                    case LAG: to[i] = i - first < n ? 0 : from[i] - from[i - n]; break;
                    default: to[i] = from[i]; break;
                }
            }
        }

        private static void showMean(int[] from, int[] to, int first, int end, int n) {
            long sum = 0;
            int left = first;
            int right = first;
            for (int i = first; i < end; i++) {
                for (; right < end && right <= i + n; right++) {
                    sum += from[right];
                }
                for (; left < i - n; left++) {
                    sum -= from[left];
                }
                to[i] = meanDown(sum, right - left);
            }
        }
    }

    /** The record as it came, with the names that its samples have. */
    private static final class Samples {
        final int[] came = new int[MOST_SAMPLES];
        /** 0 where a sample has no name. */
        final int[] names = new int[MOST_SAMPLES];
        int size;

        static boolean canCome(int v) {
            return v == GAP || (v >= -GREATEST_HEAVE && v <= GREATEST_HEAVE);
        }

        boolean has(int at) {
            return at >= 0 && at < size;
        }

        int room() {
            return came.length - size;
        }

        void add(int v) {
            if (size >= came.length) {
                return;
            }
            came[size] = v;
            names[size] = 0;
            size++;
        }

        void drop(int n) {
            if (n < 0 || n > size) {
                return;
            }
            for (int i = n; i < size; i++) {
                came[i - n] = came[i];
                names[i - n] = names[i];
            }
            size -= n;
        }

        int nameAt(int at) {
            return has(at) && names[at] != 0 ? names[at] : NONE;
        }

        int bearerOf(int sought) {
            if (sought < 1) {
                return NONE;
            }
            for (int i = 0; i < size; i++) {
                if (names[i] == sought) {
                    return i;
                }
            }
            return NONE;
        }

        int namesGiven() {
            int given = 0;
            for (int i = 0; i < size; i++) {
                if (names[i] != 0) {
                    given++;
                }
            }
            return given;
        }

        int leastNameIn(int first, int end) {
            int least = NONE;
            for (int i = first; i < end; i++) {
                int here = nameAt(i);
                if (here != NONE && (least == NONE || here < least)) {
                    least = here;
                }
            }
            return least;
        }
    }

    /** The record mended, split, and seen through the lenses; the levels and who crosses them. */
    private static final class Stretches {
        /** A row for each number of lenses: behind none, behind one, and so on. */
        private final int[][] shown = new int[MOST_LENSES + 1][MOST_SAMPLES];
        /** The row behind the last lens. */
        int[] seen = shown[0];
        /** NONE where a sample is refused. */
        final int[] stretchOf = new int[MOST_SAMPLES];
        final int[] first = new int[MOST_STRETCHES];
        final int[] length = new int[MOST_STRETCHES];
        final int[] levels = new int[MOST_STRETCHES];
        int size;
        int gaps;
        int mended;

        boolean has(int at) {
            return at >= 0 && at < size;
        }

        int endOf(int at) {
            return first[at] + length[at];
        }

        int shownBehind(int sample, int lenses) {
            return stretchOf[sample] == NONE ? GAP : shown[lenses][sample];
        }

        void mendGaps(Samples samples, int most) {
            gaps = 0;
            mended = 0;
            int ahead = NONE;
            for (int i = 0; i < samples.size; i++) {
                if (samples.came[i] == GAP) {
                    gaps++;
                    stretchOf[i] = NONE;
                    continue;
                }
                keep(i, samples.came[i]);
                if (ahead != NONE && i - ahead - 1 <= most) {
                    mendBetween(ahead, i);
                }
                ahead = i;
            }
        }

        private void mendBetween(int ahead, int behind) {
            int parts = behind - ahead;
            int a = shown[0][ahead];
            int b = shown[0][behind];
            for (int k = 1; k < parts; k++) {
                keep(ahead + k, meanDown((long) a * (parts - k) + (long) b * k, parts));
                mended++;
            }
        }

        /** A kept sample belongs to some stretch: split tells which. */
        private void keep(int at, int value) {
            shown[0][at] = value;
            stretchOf[at] = 0;
        }

        void split(int samples) {
            size = 0;
            boolean open = false;
            for (int i = 0; i < samples; i++) {
                if (stretchOf[i] == NONE) {
                    open = false;
                    continue;
                }
                if (!open && size < first.length) {
                    first[size] = i;
                    length[size] = 0;
                    size++;
                    open = true;
                }
                stretchOf[i] = size - 1;
                length[size - 1]++;
            }
        }

        void lookThrough(LensRow lenses) {
            for (int lens = 0; lens < lenses.size; lens++) {
                for (int s = 0; s < size; s++) {
                    lenses.show(lens, shown[lens], shown[lens + 1], first[s], endOf(s));
                }
            }
            seen = shown[lenses.size];
        }

        void findLevels(Settings settings, Sorter sorter) {
            for (int s = 0; s < size; s++) {
                switch (settings.rule) {
                    case 1: levels[s] = meanOf(s); break;
                    case 2: levels[s] = middleOf(s, sorter); break;
                    default: levels[s] = settings.levelTold; break;
                }
            }
        }

        private int meanOf(int at) {
            long sum = 0;
            int end = endOf(at);
            for (int i = first[at]; i < end; i++) {
                sum += seen[i];
            }
            return meanDown(sum, length[at]);
        }

        private int middleOf(int at, Sorter sorter) {
            sorter.clear();
            int end = endOf(at);
            for (int i = first[at]; i < end; i++) {
                sorter.add(seen[i]);
            }
            sorter.sort();
            return (int) sorter.keyAt((length[at] - 1) / 2);
        }

        /** The first sample of the greatest one; from is below end. */
        int topIn(int from, int end) {
            int top = from;
            for (int i = from; i < end; i++) {
                if (seen[i] > seen[top]) {
                    top = i;
                }
            }
            return top;
        }

        /** The least one; from is below end. */
        int leastIn(int from, int end) {
            int least = seen[from];
            for (int i = from; i < end; i++) {
                least = Math.min(least, seen[i]);
            }
            return least;
        }

        /** The first crossing from a sample on that is the stretch's first or behind a crossing. */
        int nextCrossing(int at, int from, int band) {
            boolean wasLow = false;
            int end = endOf(at);
            for (int i = from; i < end; i++) {
                int above = seen[i] - levels[at];
                if (above < -band) {
                    wasLow = true;
                } else if (wasLow && above > band) {
                    return i;
                }
            }
            return NONE;
        }

        int wavesBy(int band) {
            int all = 0;
            for (int s = 0; s < size; s++) {
                int crossings = 0;
                int crossing = nextCrossing(s, first[s], band);
                for (int i = 0; i < length[s] && crossing != NONE; i++) {
                    crossings++;
                    crossing = nextCrossing(s, crossing + 1, band);
                }
                all += Math.max(0, crossings - 1);
            }
            return all;
        }

        /**
         * The band itself if by it no crossing lies from a sample to ahead of another; else a wider
         * one, and by all bands ahead of that the first such crossing stays: until it or the low one
         * ahead of it is no longer outside the band, what lies between the two is within it.
         */
        int bandAgainst(int at, int from, int end, int band) {
            int latest = latestOutside(at, from, band);
            for (int i = from; i < end; i++) {
                int above = seen[i] - levels[at];
                if (above > band && latest < 0) {
                    return Math.min(above, -latest);
                }
                if (above > band || above < -band) {
                    latest = above;
                }
            }
            return band;
        }

        /** How far above the level the latest sample outside the band is, ahead of one; 0: none is. */
        private int latestOutside(int at, int behind, int band) {
            for (int i = behind - 1; i >= first[at]; i--) {
                int above = seen[i] - levels[at];
                if (above > band || above < -band) {
                    return above;
                }
            }
            return 0;
        }
    }

    /** The waves as they come, and what lies ahead of and behind those of each stretch. */
    private static final class Waves {
        final int[] waveOf = new int[MOST_SAMPLES];
        final int[] first = new int[MOST_WAVES];
        final int[] period = new int[MOST_WAVES];
        final int[] height = new int[MOST_WAVES];
        final int[] crest = new int[MOST_WAVES];
        final int[] top = new int[MOST_WAVES];
        final int[] stretchOf = new int[MOST_WAVES];
        final int[] wavesIn = new int[MOST_STRETCHES];
        final int[] head = new int[MOST_STRETCHES];
        final int[] tail = new int[MOST_STRETCHES];
        int size;

        boolean has(int at) {
            return at >= 0 && at < size;
        }

        int endOf(int at) {
            return first[at] + period[at];
        }

        void find(Stretches stretches, int samples, int band) {
            size = 0;
            for (int i = 0; i < samples; i++) {
                waveOf[i] = NONE;
            }
            for (int s = 0; s < stretches.size; s++) {
                findIn(stretches, s, band);
            }
        }

        private void findIn(Stretches stretches, int s, int band) {
            int start = stretches.first[s];
            int end = stretches.endOf(s);
            int ahead = size;
            int crossing = stretches.nextCrossing(s, start, band);
            head[s] = crossing == NONE ? end - start : crossing - start;
            tail[s] = 0;
            for (int i = start; i < end && crossing != NONE; i++) {
                int next = stretches.nextCrossing(s, crossing + 1, band);
                if (next == NONE) {
                    tail[s] = end - crossing;
                } else {
                    add(stretches, s, crossing, next);
                }
                crossing = next;
            }
            wavesIn[s] = size - ahead;
        }

        private void add(Stretches stretches, int s, int from, int end) {
            if (size >= first.length) {
                return;
            }
            int highest = stretches.topIn(from, end);
            first[size] = from;
            period[size] = end - from;
            height[size] = stretches.seen[highest] - stretches.leastIn(from, end);
            crest[size] = stretches.seen[highest] - stretches.levels[s];
            top[size] = highest;
            stretchOf[size] = s;
            for (int i = from; i < end; i++) {
                waveOf[i] = size;
            }
            size++;
        }

        int periodsFrom(int from, int end) {
            int sum = 0;
            for (int w = from; w < end; w++) {
                sum += period[w];
            }
            return sum;
        }

        long squaresFrom(int from, int end) {
            long sum = 0;
            for (int w = from; w < end; w++) {
                sum += (long) height[w] * height[w];
            }
            return sum;
        }
    }

    /** The waves by height, and how high a wave must be. */
    private static final class Ranking {
        final int[] order = new int[MOST_WAVES];
        final int[] rankOf = new int[MOST_WAVES];
        int freaks;
        private long sumOfAll;
        private long sumOfThird;
        private int third;
        private int middle;

        /** How many are the highest of a part. */
        static int partOf(int all, int part) {
            return all < 1 || part < 1 ? 0 : Math.max(1, all / part);
        }

        void rank(Waves waves, Sorter sorter) {
            sorter.clear();
            for (int w = 0; w < waves.size; w++) {
                // The number of the wave in the key puts the first of like ones first.
                sorter.add((long) -waves.height[w] * MOST_WAVES + w);
            }
            sorter.sort();
            for (int r = 0; r < waves.size; r++) {
                int w = (int) Math.floorMod(sorter.keyAt(r), (long) MOST_WAVES);
                order[r] = w;
                rankOf[w] = r;
            }
        }

        void weigh(Waves waves, Settings settings) {
            third = partOf(waves.size, 3);
            sumOfThird = heightsOfHighest(waves, third);
            sumOfAll = heightsOfHighest(waves, waves.size);
            // The highest first, the lower one of two in the middle stands at half of them.
            middle = waves.size < 1 ? 0 : waves.height[order[waves.size / 2]];
            freaks = 0;
            for (int w = 0; w < waves.size; w++) {
                if (10L * waves.height[w] * third > settings.factor() * sumOfThird) {
                    freaks++;
                }
            }
        }

        boolean isHigh(Waves waves, int w, Settings settings) {
            long height = waves.height[w];
            switch (settings.markRule) {
                case 1: return height * waves.size > sumOfAll;
                case 2: return height * third > sumOfThird;
                case 3: return height > middle;
                default: return height > settings.markTold;
            }
        }

        int heightsOfHighest(Waves waves, int many) {
            int sum = 0;
            for (int r = 0; r < many; r++) {
                sum += waves.height[order[r]];
            }
            return sum;
        }

        int periodsOfHighest(Waves waves, int many) {
            int sum = 0;
            for (int r = 0; r < many; r++) {
                sum += waves.period[order[r]];
            }
            return sum;
        }

        /** The wave of the least rank; from is below end. */
        int leastRankIn(int from, int end) {
            int best = from;
            for (int w = from; w < end; w++) {
                if (rankOf[w] < rankOf[best]) {
                    best = w;
                }
            }
            return best;
        }
    }

    /** The groups of high waves as they come. */
    private static final class Groups {
        final int[] groupOf = new int[MOST_WAVES];
        final int[] first = new int[MOST_WAVES];
        final int[] length = new int[MOST_WAVES];
        int size;

        boolean has(int at) {
            return at >= 0 && at < size;
        }

        void find(Waves waves, Ranking ranking, Settings settings) {
            size = 0;
            int run = 0;
            for (int w = 0; w < waves.size; w++) {
                groupOf[w] = NONE;
                boolean otherStretch = w > 0 && waves.stretchOf[w] != waves.stretchOf[w - 1];
                boolean isHigh = ranking.isHigh(waves, w, settings);
                if (otherStretch || !isHigh) {
                    close(w, run, settings.least());
                    run = 0;
                }
                if (isHigh) {
                    run++;
                }
            }
            close(waves.size, run, settings.least());
        }

        /** The run of high waves that ends ahead of a wave is a group, if it is long enough. */
        private void close(int end, int run, int least) {
            if (run < least || size >= first.length) {
                return;
            }
            first[size] = end - run;
            length[size] = run;
            for (int w = end - run; w < end; w++) {
                groupOf[w] = size;
            }
            size++;
        }
    }

    /** Sorts numbers, the least first, in two rows that are used again. */
    private static final class Sorter {
        private long[] keys = new long[MOST_SAMPLES];
        private long[] spare = new long[MOST_SAMPLES];
        private int size;

        void clear() {
            size = 0;
        }

        void add(long key) {
            if (size >= keys.length) {
                return;
            }
            keys[size] = key;
            size++;
        }

        long keyAt(int at) {
            return at >= 0 && at < size ? keys[at] : 0;
        }

        void sort() {
            for (int width = 1; width < size; width *= 2) {
                for (int from = 0; from < size; from += 2 * width) {
                    merge(from, Math.min(from + width, size), Math.min(from + 2 * width, size));
                }
                long[] merged = spare;
                spare = keys;
                keys = merged;
            }
        }

        private void merge(int from, int middle, int end) {
            int left = from;
            int right = middle;
            for (int to = from; to < end; to++) {
                boolean takeLeft = right >= end || (left < middle && keys[left] <= keys[right]);
                if (takeLeft) {
                    spare[to] = keys[left];
                    left++;
                } else {
                    spare[to] = keys[right];
                    right++;
                }
            }
        }
    }
}
