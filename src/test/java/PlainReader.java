import java.math.BigInteger;
import java.util.ArrayList;
import java.util.List;
import java.util.TreeMap;

/**
 * The document once more, word by word and without thought of speed: everything is worked out anew
 * for every call. It shares no code and, where it can, no way of reckoning with BuoyReader.
 */
final class PlainReader {
    static final int NONE = -1;
    static final int GAP = -32768;

    private record Sea(int first, int[] seen, int level) { }

    private record Billow(int first, int end, int stretch, int height, int crest, int trough, int top) { }

    private final List<Integer> record = new ArrayList<>();
    private final TreeMap<Integer, Integer> names = new TreeMap<>();
    private final List<int[]> lenses = new ArrayList<>();
    private int mend = 2;
    private int band = 0;
    private int factor = 20;
    private int least = 2;
    private int rule = 0;
    private int levelTold = 0;
    private int mark = 0;
    private int markTold = 0;

    private static boolean between(int v, int low, int high) {
        return low <= v && v <= high;
    }

    private static boolean comes(int v) {
        return v == GAP || between(v, -9999, 9999);
    }

    private static int down(BigInteger above, int below) {
        BigInteger[] parts = above.divideAndRemainder(BigInteger.valueOf(below));
        return parts[1].signum() < 0 ? parts[0].intValue() - 1 : parts[0].intValue();
    }

    // ---- the record

    int heave(int v) {
        if (!comes(v) || record.size() == 600) {
            return NONE;
        }
        record.add(v);
        return record.size();
    }

    int four(long v) {
        List<Integer> come = new ArrayList<>();
        for (int shift = 48; shift >= 0; shift -= 16) {
            int bits = (int) ((v >>> shift) & 0xFFFF);
            come.add(bits >= 0x8000 ? bits - 0x10000 : bits);
        }
        for (int c : come) {
            if (!comes(c)) {
                return NONE;
            }
        }
        if (record.size() + 4 > 600) {
            return NONE;
        }
        record.addAll(come);
        return record.size();
    }

    int forget(int n) {
        if (n < 0 || n > record.size()) {
            return NONE;
        }
        record.subList(0, n).clear();
        TreeMap<Integer, Integer> left = new TreeMap<>();
        names.forEach((name, sample) -> {
            if (sample >= n) {
                left.put(name, sample - n);
            }
        });
        names.clear();
        names.putAll(left);
        return record.size();
    }

    // ---- how it is read

    boolean set(int what, int v) {
        if (what == 0 && between(v, 0, 20) && v != mend) {
            mend = v;
            return true;
        }
        if (what == 1 && between(v, 0, 500) && v != band) {
            band = v;
            return true;
        }
        if (what == 2 && between(v, 10, 50) && v != factor) {
            factor = v;
            return true;
        }
        if (what == 3 && between(v, 1, 9) && v != least) {
            least = v;
            return true;
        }
        return false;
    }

    boolean level(int newRule, int v) {
        boolean can = newRule == 0 && between(v, -9999, 9999) || between(newRule, 1, 2) && v == 0;
        if (!can || newRule == rule && v == levelTold) {
            return false;
        }
        rule = newRule;
        levelTold = v;
        return true;
    }

    boolean mark(int newMark, int v) {
        boolean can = newMark == 0 && between(v, 0, 99999) || between(newMark, 1, 3) && v == 0;
        if (!can || newMark == mark && v == markTold) {
            return false;
        }
        mark = newMark;
        markTold = v;
        return true;
    }

    int lens(int kind, int n) {
        boolean can = kind == 0 && between(n, 1, 5) || kind == 1 && between(n, 0, 9999)
            || kind == 2 && n == 0 || kind == 3 && between(n, 1, 30) || kind == 4 && between(n, 1, 9);
        if (!can || lenses.size() == 4) {
            return NONE;
        }
        lenses.add(new int[] {kind, n});
        return lenses.size();
    }

    int off() {
        if (lenses.isEmpty()) {
            return NONE;
        }
        lenses.remove(lenses.size() - 1);
        return lenses.size();
    }

    int count(int what) {
        switch (what) {
            case 0: return record.size();
            case 1: return stretches().size();
            case 2: return waves(band).size();
            case 3: return freaks().size();
            case 4: return groups().size();
            case 5: return lenses.size();
            case 6: return names.size();
            case 7: return mend;
            case 8: return band;
            case 9: return factor;
            case 10: return least;
            case 11: return rule;
            case 12: return mark;
            case 13: return (int) record.stream().filter(v -> v == GAP).count();
            case 14: {
                int mended = 0;
                for (int i = 0; i < record.size(); i++) {
                    mended += record.get(i) == GAP && mended(i) != null ? 1 : 0;
                }
                return mended;
            }
            case 15: return waves(band).stream().mapToInt(w -> w.end - w.first).sum();
            default: return NONE;
        }
    }

    // ---- samples, stretches

    /** A sample with its gap mended, or null if it is refused. */
    private Integer mended(int sample) {
        if (record.get(sample) != GAP) {
            return record.get(sample);
        }
        int ahead = sample;
        while (ahead >= 0 && record.get(ahead) == GAP) {
            ahead--;
        }
        int behind = sample;
        while (behind < record.size() && record.get(behind) == GAP) {
            behind++;
        }
        int g = behind - ahead - 1;
        if (ahead < 0 || behind == record.size() || g > mend) {
            return null;
        }
        int k = sample - ahead;
        long together = (long) record.get(ahead) * (g + 1 - k) + (long) record.get(behind) * k;
        return down(BigInteger.valueOf(together), g + 1);
    }

    /** The stretches as they are behind so many lenses. */
    private List<Sea> stretchesBehind(int howMany) {
        List<Sea> found = new ArrayList<>();
        List<Integer> open = new ArrayList<>();
        for (int i = 0; i <= record.size(); i++) {
            Integer v = i < record.size() ? mended(i) : null;
            if (v != null) {
                open.add(v);
            } else if (!open.isEmpty()) {
                int[] seen = open.stream().mapToInt(x -> x).toArray();
                for (int[] lens : lenses.subList(0, howMany)) {
                    seen = behind(lens[0], lens[1], seen);
                }
                found.add(new Sea(i - open.size(), seen, levelOf(seen)));
                open.clear();
            }
        }
        return found;
    }

    private List<Sea> stretches() {
        return stretchesBehind(lenses.size());
    }

    private static int[] behind(int kind, int n, int[] from) {
        int[] to = new int[from.length];
        for (int i = 0; i < from.length; i++) {
            if (kind == 0) {
                BigInteger together = BigInteger.ZERO;
                int many = 0;
                for (int j = i - n; j <= i + n; j++) {
                    if (j >= 0 && j < from.length) {
                        together = together.add(BigInteger.valueOf(from[j]));
                        many++;
                    }
                }
                to[i] = down(together, many);
            } else if (kind == 1) {
                to[i] = from[i] > n ? n : from[i] < -n ? -n : from[i];
            } else if (kind == 2) {
                to[i] = -from[i];
            } else if (kind == 3) {
                to[i] = down(BigInteger.valueOf(from[i]).multiply(BigInteger.valueOf(n)), 10);
            } else {
                to[i] = i < n ? 0 : from[i] - from[i - n];
            }
        }
        return to;
    }

    private int levelOf(int[] seen) {
        if (rule == 0) {
            return levelTold;
        }
        if (rule == 1) {
            BigInteger together = BigInteger.ZERO;
            for (int v : seen) {
                together = together.add(BigInteger.valueOf(v));
            }
            return down(together, seen.length);
        }
        int[] sorted = seen.clone();
        java.util.Arrays.sort(sorted);
        return sorted[(sorted.length - 1) / 2];
    }

    private int stretchAt(int sample) {
        List<Sea> all = stretches();
        for (int s = 0; s < all.size(); s++) {
            if (between(sample, all.get(s).first, all.get(s).first + all.get(s).seen.length - 1)) {
                return s;
            }
        }
        return NONE;
    }

    private int waveAt(int sample) {
        List<Billow> all = waves(band);
        for (int w = 0; w < all.size(); w++) {
            if (between(sample, all.get(w).first, all.get(w).end - 1)) {
                return w;
            }
        }
        return NONE;
    }

    private int nameAt(int sample) {
        for (int name : names.keySet()) {
            if (names.get(name) == sample) {
                return name;
            }
        }
        return NONE;
    }

    int sample(int sample, int what) {
        if (!between(sample, 0, record.size() - 1)) {
            return NONE;
        }
        switch (what) {
            case 0: return record.get(sample);
            case 1: return mended(sample) == null ? GAP : mended(sample);
            case 2: return through(sample, lenses.size());
            case 3: return stretchAt(sample);
            case 4: return waveAt(sample);
            case 5: return nameAt(sample);
            default: return NONE;
        }
    }

    int through(int sample, int howMany) {
        if (!between(howMany, 0, lenses.size()) || stretchAt(sample) == NONE) {
            return GAP;
        }
        Sea sea = stretchesBehind(howMany).get(stretchAt(sample));
        return sea.seen[sample - sea.first];
    }

    int stretch(int stretch, int what) {
        List<Sea> all = stretches();
        if (!between(stretch, 0, all.size() - 1)) {
            return NONE;
        }
        Sea sea = all.get(stretch);
        List<Integer> crossings = crossings(sea, band);
        int[] sorted = sea.seen.clone();
        java.util.Arrays.sort(sorted);
        switch (what) {
            case 0: return sea.first;
            case 1: return sea.seen.length;
            case 2: return sea.level;
            case 3: return crossings.size() < 2 ? 0 : crossings.size() - 1;
            case 4: return crossings.isEmpty() ? sea.seen.length : crossings.get(0);
            case 5: return crossings.isEmpty() ? 0 : sea.seen.length - crossings.get(crossings.size() - 1);
            case 6: return sorted[sorted.length - 1];
            case 7: return sorted[0];
            default: return NONE;
        }
    }

    // ---- waves

    /** Crossings by their definition, counted from the first sample of their stretch. */
    private static List<Integer> crossings(Sea sea, int band) {
        List<Integer> found = new ArrayList<>();
        for (int i = 0; i < sea.seen.length; i++) {
            if (sea.seen[i] <= sea.level + band) {
                continue;
            }
            int latest = i - 1;
            while (latest >= 0 && sea.seen[latest] >= sea.level - band) {
                latest--;
            }
            boolean crossed = !found.isEmpty() && found.get(found.size() - 1) > latest;
            if (latest >= 0 && !crossed) {
                found.add(i);
            }
        }
        return found;
    }

    private List<Billow> waves(int byBand) {
        List<Billow> found = new ArrayList<>();
        List<Sea> all = stretches();
        for (int s = 0; s < all.size(); s++) {
            Sea sea = all.get(s);
            List<Integer> crossings = crossings(sea, byBand);
            for (int c = 0; c + 1 < crossings.size(); c++) {
                found.add(billow(sea, s, crossings.get(c), crossings.get(c + 1)));
            }
        }
        return found;
    }

    private static Billow billow(Sea sea, int stretch, int from, int to) {
        int greatest = Integer.MIN_VALUE;
        int lowest = Integer.MAX_VALUE;
        int top = NONE;
        for (int i = from; i < to; i++) {
            if (sea.seen[i] > greatest) {
                greatest = sea.seen[i];
                top = sea.first + i;
            }
            lowest = Math.min(lowest, sea.seen[i]);
        }
        return new Billow(sea.first + from, sea.first + to, stretch, greatest - lowest,
            greatest - sea.level, sea.level - lowest, top);
    }

    /** The numbers of the waves by rank. */
    private List<Integer> byRank() {
        List<Billow> all = waves(band);
        List<Integer> order = new ArrayList<>();
        for (int w = 0; w < all.size(); w++) {
            order.add(w);
        }
        order.sort((a, b) -> all.get(a).height != all.get(b).height
            ? Integer.compare(all.get(b).height, all.get(a).height) : Integer.compare(a, b));
        return order;
    }

    private List<Integer> theHighest(int part) {
        List<Integer> order = byRank();
        return order.isEmpty() ? order : order.subList(0, Math.max(1, order.size() / part));
    }

    private BigInteger heights(List<Integer> some) {
        List<Billow> all = waves(band);
        BigInteger sum = BigInteger.ZERO;
        for (int w : some) {
            sum = sum.add(BigInteger.valueOf(all.get(w).height));
        }
        return sum;
    }

    private static BigInteger big(long v) {
        return BigInteger.valueOf(v);
    }

    private List<Integer> freaks() {
        List<Integer> found = new ArrayList<>();
        List<Integer> third = theHighest(3);
        BigInteger bar = heights(third).multiply(big(factor));
        List<Billow> all = waves(band);
        for (int w : byRank()) {
            if (big(all.get(w).height).multiply(big(10)).multiply(big(third.size())).compareTo(bar) > 0) {
                found.add(w);
            }
        }
        return found;
    }

    private boolean[] high() {
        List<Billow> all = waves(band);
        boolean[] high = new boolean[all.size()];
        if (all.isEmpty()) {
            return high;
        }
        List<Integer> meant = mark == 2 ? theHighest(3) : byRank();
        BigInteger bar = heights(meant);
        int[] sorted = all.stream().mapToInt(w -> w.height).sorted().toArray();
        for (int w = 0; w < all.size(); w++) {
            int height = all.get(w).height;
            if (mark == 0) {
                high[w] = height > markTold;
            } else if (mark == 3) {
                high[w] = height > sorted[(sorted.length - 1) / 2];
            } else {
                high[w] = big(height).multiply(big(meant.size())).compareTo(bar) > 0;
            }
        }
        return high;
    }

    private List<List<Integer>> groups() {
        List<List<Integer>> found = new ArrayList<>();
        List<Billow> all = waves(band);
        boolean[] high = high();
        List<Integer> open = new ArrayList<>();
        for (int w = 0; w <= all.size(); w++) {
            boolean goesOn = w < all.size() && high[w]
                && (open.isEmpty() || all.get(w).stretch == all.get(w - 1).stretch);
            if (!goesOn) {
                if (open.size() >= least) {
                    found.add(new ArrayList<>(open));
                }
                open.clear();
            }
            if (w < all.size() && high[w]) {
                open.add(w);
            }
        }
        return found;
    }

    int wave(int wave, int what) {
        List<Billow> all = waves(band);
        if (!between(wave, 0, all.size() - 1)) {
            return NONE;
        }
        Billow it = all.get(wave);
        switch (what) {
            case 0: return it.first;
            case 1: return it.end - it.first;
            case 2: return it.height;
            case 3: return it.crest;
            case 4: return it.trough;
            case 5: return it.top;
            case 6: return it.stretch;
            case 7: return byRank().indexOf(wave);
            case 8: return freaks().contains(wave) ? 1 : 0;
            case 9: return high()[wave] ? 1 : 0;
            case 10: {
                List<List<Integer>> groups = groups();
                for (int g = 0; g < groups.size(); g++) {
                    if (groups.get(g).contains(wave)) {
                        return g;
                    }
                }
                return NONE;
            }
            case 11: {
                for (int name : names.keySet()) {
                    if (between(names.get(name), it.first, it.end - 1)) {
                        return name;
                    }
                }
                return NONE;
            }
            default: return NONE;
        }
    }

    int ranked(int rank) {
        List<Integer> order = byRank();
        return between(rank, 0, order.size() - 1) ? order.get(rank) : NONE;
    }

    int highest(int part, int what) {
        if (!between(part, 1, 10) || !between(what, 0, 4)) {
            return NONE;
        }
        List<Integer> some = theHighest(part);
        if (what == 4) {
            return some.size();
        }
        if (some.isEmpty()) {
            return what % 2;
        }
        List<Billow> all = waves(band);
        BigInteger above = BigInteger.ZERO;
        for (int w : some) {
            above = above.add(big(what < 2 ? all.get(w).height : all.get(w).end - all.get(w).first));
        }
        BigInteger common = above.gcd(big(some.size()));
        return (what % 2 == 0 ? above : big(some.size())).divide(common).intValueExact();
    }

    int freak(int k) {
        List<Integer> all = freaks();
        return between(k, 0, all.size() - 1) ? all.get(k) : NONE;
    }

    int group(int group, int what) {
        List<List<Integer>> all = groups();
        if (!between(group, 0, all.size() - 1)) {
            return NONE;
        }
        List<Integer> it = all.get(group);
        switch (what) {
            case 0: return it.get(0);
            case 1: return it.size();
            case 2: return byRank().stream().filter(it::contains).findFirst().get();
            case 3: return group == all.size() - 1 ? NONE : all.get(group + 1).get(0) - it.get(0);
            case 4: return it.stream().mapToInt(w -> wave(w, 1)).sum();
            default: return NONE;
        }
    }

    long energy(int group) {
        List<Integer> some = byRank();
        if (group != NONE) {
            List<List<Integer>> all = groups();
            if (!between(group, 0, all.size() - 1)) {
                return -1;
            }
            some = all.get(group);
        }
        List<Billow> all = waves(band);
        return some.stream().mapToLong(w -> (long) all.get(w).height * all.get(w).height).sum();
    }

    // ---- names

    boolean name(int wave, int name) {
        List<Billow> all = waves(band);
        if (!between(wave, 0, all.size() - 1) || !between(name, 1, 999)) {
            return false;
        }
        if (names.containsKey(name) || names.containsValue(all.get(wave).top) || names.size() == 20) {
            return false;
        }
        names.put(name, all.get(wave).top);
        return true;
    }

    int unname(int name) {
        Integer sample = names.remove(name);
        return sample == null ? NONE : sample;
    }

    int named(int name) {
        return names.containsKey(name) ? waveAt(names.get(name)) : NONE;
    }

    // ---- what would be

    int would(int byBand) {
        return between(byBand, 0, 500) ? waves(byBand).size() : NONE;
    }

    int quiet(int n) {
        List<Sea> all = stretches();
        for (int b = 0; n >= 0 && b <= 500; b++) {
            int found = 0;
            for (Sea sea : all) {
                found += Math.max(0, crossings(sea, b).size() - 1);
            }
            if (found <= n) {
                return b;
            }
        }
        return NONE;
    }

    int gone(int wave) {
        List<Billow> all = waves(band);
        if (!between(wave, 0, all.size() - 1)) {
            return NONE;
        }
        Billow it = all.get(wave);
        Sea sea = stretches().get(it.stretch);
        for (int b = 0; b <= 500; b++) {
            boolean lies = false;
            for (int c : crossings(sea, b)) {
                lies |= between(sea.first + c, it.first, it.end - 1);
            }
            if (!lies) {
                return b;
            }
        }
        return NONE;
    }
}
