import java.math.BigInteger;
import java.util.ArrayList;
import java.util.HashMap;
import java.util.HashSet;
import java.util.LinkedHashSet;
import java.util.List;
import java.util.Map;
import java.util.Set;
import java.util.TreeMap;

/**
 * The document once more, written as plainly and slowly as it reads, minute by minute: what the random tests compare
 * the class with. It has nothing in common with the class but the document.
 */
final class Model {
    static final int NONE = -1;

    /** A glass: size, top, price. */
    static final class Shelf {
        final List<int[]> glasses = new ArrayList<>();

        int n() {
            return glasses.size();
        }

        int size(int g) {
            return glasses.get(g)[0];
        }

        int price(int g) {
            return glasses.get(g)[2];
        }

        List<Integer> tops() {
            List<Integer> tops = new ArrayList<>();
            for (int[] g : glasses) {
                tops.add(g[1]);
            }
            return tops;
        }

        Shelf only(int set) {
            Shelf shelf = new Shelf();
            for (int g = 0; g < n(); g++) {
                if ((set >> g & 1) == 1) {
                    shelf.glasses.add(glasses.get(g));
                }
            }
            return shelf;
        }

        Shelf withTops(int[] tops) {
            Shelf shelf = new Shelf();
            for (int g = 0; g < n(); g++) {
                shelf.glasses.add(new int[] {size(g), tops[g], price(g)});
            }
            return shelf;
        }
    }

    /** Minutes until anything runs out, nothing being turned, and the tops then; null if nothing runs. */
    record Next(int minutes, List<Integer> tops) {
    }

    static Next next(List<Integer> tops) {
        List<Integer> now = new ArrayList<>(tops);
        for (int minute = 1; minute <= 7; minute++) {
            boolean out = false;
            for (int g = 0; g < now.size(); g++) {
                if (now.get(g) > 0) {
                    now.set(g, now.get(g) - 1);
                    out |= now.get(g) == 0;
                }
            }
            if (out) {
                return new Next(minute, now);
            }
        }
        return null;
    }

    static List<Integer> turn(Shelf shelf, List<Integer> tops, int set) {
        List<Integer> turned = new ArrayList<>(tops);
        for (int g = 0; g < shelf.n(); g++) {
            if ((set >> g & 1) == 1) {
                turned.set(g, shelf.size(g) - tops.get(g));
            }
        }
        return turned;
    }

    static Next next(Shelf shelf, List<Integer> tops, int set) {
        return next(turn(shelf, tops, set));
    }

    static int sets(Shelf shelf) {
        return 1 << shelf.n();
    }

    /** By minutes up to a last one: the rows of tops there can be at an event then. */
    static List<Set<List<Integer>>> reach(Shelf shelf, Set<List<Integer>> from, int last) {
        List<Set<List<Integer>>> at = new ArrayList<>();
        for (int m = 0; m <= last; m++) {
            at.add(new LinkedHashSet<>());
        }
        at.get(0).addAll(from);
        for (int m = 0; m <= last; m++) {
            for (List<Integer> tops : at.get(m)) {
                for (int set = 0; set < sets(shelf); set++) {
                    Next next = next(shelf, tops, set);
                    if (next != null && m + next.minutes <= last) {
                        at.get(m + next.minutes).add(next.tops);
                    }
                }
            }
        }
        return at;
    }

    static List<Set<List<Integer>>> reach(Shelf shelf) {
        return reach(shelf, Set.of(shelf.tops()), 30);
    }

    static int times(Shelf shelf) {
        List<Set<List<Integer>>> at = reach(shelf);
        int bits = 0;
        for (int t = 1; t <= 30; t++) {
            bits |= at.get(t).isEmpty() ? 0 : 1 << t;
        }
        return bits;
    }

    /** A way to an event: turns, price, the sets and their minutes. */
    record Way(int turns, int price, List<Integer> sets, List<Integer> minutes) {
        boolean before(Way other) {
            if (turns != other.turns) {
                return turns < other.turns;
            }
            for (int i = 0; i < Math.min(sets.size(), other.sets.size()); i++) {
                if (!sets.get(i).equals(other.sets.get(i))) {
                    return sets.get(i) < other.sets.get(i);
                }
            }
            return false;
        }
    }

    /** By T: the way of the fewest turns, the first by numbers; null if there is none. */
    static Way[] rows(Shelf shelf) {
        List<Map<List<Integer>, Way>> at = new ArrayList<>();
        for (int m = 0; m <= 30; m++) {
            at.add(new HashMap<>());
        }
        at.get(0).put(shelf.tops(), new Way(0, 0, List.of(), List.of()));
        for (int m = 0; m <= 30; m++) {
            for (Map.Entry<List<Integer>, Way> e : at.get(m).entrySet()) {
                for (int set = 0; set < sets(shelf); set++) {
                    Next next = next(shelf, e.getKey(), set);
                    if (next == null || m + next.minutes > 30) {
                        continue;
                    }
                    List<Integer> sets = new ArrayList<>(e.getValue().sets);
                    sets.add(set);
                    List<Integer> minutes = new ArrayList<>(e.getValue().minutes);
                    minutes.add(m);
                    Way way = new Way(e.getValue().turns + Integer.bitCount(set), 0, sets, minutes);
                    at.get(m + next.minutes).merge(next.tops, way, (a, b) -> b.before(a) ? b : a);
                }
            }
        }
        Way[] best = new Way[31];
        for (int t = 1; t <= 30; t++) {
            for (Way way : at.get(t).values()) {
                if (best[t] == null || way.before(best[t])) {
                    best[t] = way;
                }
            }
        }
        return best;
    }

    static int priceOf(Shelf shelf, int set) {
        int sum = 0;
        for (int g = 0; g < shelf.n(); g++) {
            sum += (set >> g & 1) * shelf.price(g);
        }
        return sum;
    }

    /** By T: the least sum of prices, or of events; NONE if there is none. */
    static int[] least(Shelf shelf, boolean events) {
        List<Map<List<Integer>, Integer>> at = new ArrayList<>();
        for (int m = 0; m <= 30; m++) {
            at.add(new HashMap<>());
        }
        at.get(0).put(shelf.tops(), 0);
        int[] least = new int[31];
        for (int m = 0; m <= 30; m++) {
            least[m] = at.get(m).values().stream().min(Integer::compare).orElse(NONE);
            for (Map.Entry<List<Integer>, Integer> e : at.get(m).entrySet()) {
                for (int set = 0; set < sets(shelf); set++) {
                    Next next = next(shelf, e.getKey(), set);
                    if (next != null && m + next.minutes <= 30) {
                        int sum = e.getValue() + (events ? 1 : priceOf(shelf, set));
                        at.get(m + next.minutes).merge(next.tops, sum, Math::min);
                    }
                }
            }
        }
        return least;
    }

    static int span(Shelf shelf, int t) {
        List<Set<List<Integer>>> at = reach(shelf);
        for (int begin = 0; begin + t <= 30; begin++) {
            if (!reach(shelf, at.get(begin), t).get(t).isEmpty()) {
                return begin + t;
            }
        }
        return NONE;
    }

    static int need(Shelf shelf, int t, boolean which) {
        for (int many = 1; many <= shelf.n(); many++) {
            for (int set = 0; set < sets(shelf); set++) {
                if (Integer.bitCount(set) == many && (times(shelf.only(set)) >> t & 1) == 1) {
                    return which ? set : many;
                }
            }
        }
        return NONE;
    }

    /** Where one is with an order: the tops, the spans done, the minutes left of the one begun (0: none is). */
    record Doing(List<Integer> tops, int done, int left) {
    }

    static int plan(Shelf shelf, List<Integer> spans, int k) {
        List<Set<Doing>> at = new ArrayList<>();
        for (int m = 0; m <= 90; m++) {
            at.add(new LinkedHashSet<>());
        }
        at.get(0).add(new Doing(shelf.tops(), 0, 0));
        for (int m = 0; m <= 90; m++) {
            Set<Doing> here = new LinkedHashSet<>(at.get(m));
            for (Doing x : at.get(m)) {
                if (x.left == 0 && x.done == k) {
                    return m;
                }
                if (x.left == 0) {
                    here.add(new Doing(x.tops, x.done, spans.get(x.done)));
                }
            }
            for (Doing x : here) {
                for (int set = 0; set < sets(shelf); set++) {
                    Next next = next(shelf, x.tops, set);
                    if (next == null || m + next.minutes > 90 || x.left > 0 && next.minutes > x.left) {
                        continue;
                    }
                    int left = x.left == 0 ? 0 : x.left - next.minutes;
                    int done = x.left > 0 && left == 0 ? x.done + 1 : x.done;
                    at.get(m + next.minutes).add(new Doing(next.tops, done, left));
                }
            }
        }
        return NONE;
    }

    static int atOnce(Shelf shelf) {
        List<Set<List<Integer>>> at = reach(shelf);
        int bits = 0;
        for (int m = 0; m <= 30; m++) {
            for (List<Integer> tops : at.get(m)) {
                for (int set = 0; set < sets(shelf); set++) {
                    Set<Integer> unlike = new HashSet<>(turn(shelf, tops, set));
                    if (unlike.size() == 1 && !unlike.contains(0)) {
                        int minute = m + unlike.iterator().next();
                        bits |= minute <= 30 ? 1 << minute : 0;
                    }
                }
            }
        }
        return bits;
    }

    /** Events ahead, events, minutes of the round; null if there is none. */
    static int[] wheel(Shelf shelf) {
        List<List<Integer>> seen = new ArrayList<>();
        List<Integer> minutes = new ArrayList<>();
        List<Integer> tops = shelf.tops();
        int minute = 0;
        while (!seen.contains(tops)) {
            seen.add(tops);
            minutes.add(minute);
            Next next = next(shelf, tops, sets(shelf) - 1);
            if (next == null) {
                return null;
            }
            tops = next.tops;
            minute += next.minutes;
        }
        int ahead = seen.indexOf(tops);
        return new int[] {ahead, seen.size() - ahead, minute - minutes.get(ahead)};
    }

    static int same(Shelf shelf, int t) {
        List<Integer> tops = shelf.tops();
        int minute = 0;
        while (minute < t) {
            Next next = next(shelf, tops, sets(shelf) - 1);
            if (next == null) {
                return 0;
            }
            tops = next.tops;
            minute += next.minutes;
        }
        return minute == t ? 1 : 0;
    }

    static long luck(Shelf shelf, int t, boolean under) {
        BigInteger whole = BigInteger.ONE.shiftLeft(4 * 12);
        List<Map<List<Integer>, BigInteger>> at = new ArrayList<>();
        for (int m = 0; m <= t; m++) {
            at.add(new HashMap<>());
        }
        at.get(0).put(shelf.tops(), whole);
        for (int m = 0; m < t; m++) {
            for (Map.Entry<List<Integer>, BigInteger> e : at.get(m).entrySet()) {
                for (int set = 0; set < sets(shelf); set++) {
                    Next next = next(shelf, e.getKey(), set);
                    if (next != null && m + next.minutes <= t) {
                        BigInteger part = e.getValue().divide(BigInteger.valueOf(sets(shelf)));
                        at.get(m + next.minutes).merge(next.tops, part, BigInteger::add);
                    }
                }
            }
        }
        BigInteger over = BigInteger.ZERO;
        for (BigInteger part : at.get(t).values()) {
            over = over.add(part);
        }
        BigInteger common = over.gcd(whole);
        return (under ? whole : over).divide(common).longValueExact();
    }

    /** The minute at which the duel ends, from a minute and tops on. */
    static int duelEnd(Shelf shelf, List<Integer> tops, int minute, int left, boolean late) {
        if (left == 0) {
            return minute;
        }
        int best = late ? Integer.MIN_VALUE : Integer.MAX_VALUE;
        for (int set = 0; set < sets(shelf); set++) {
            Next next = next(shelf, tops, set);
            int end = next == null ? minute : duelEnd(shelf, next.tops, minute + next.minutes, left - 1, !late);
            best = late ? Math.max(best, end) : Math.min(best, end);
        }
        return best;
    }

    static int duelFirst(Shelf shelf, int n) {
        int best = duelEnd(shelf, shelf.tops(), 0, n, true);
        for (int set = 0; set < sets(shelf); set++) {
            Next next = next(shelf, shelf.tops(), set);
            int end = next == null ? 0 : duelEnd(shelf, next.tops, next.minutes, n - 1, false);
            if (end == best) {
                return set;
            }
        }
        return NONE;
    }

    static int chance(Shelf shelf, int p, int m, boolean under) {
        int whole = 1;
        for (int g = 0; g < shelf.n(); g++) {
            whole *= 10;
        }
        int over = 0;
        for (int draw = 0; draw < whole; draw++) {
            int set = 0;
            int rest = draw;
            for (int g = 0; g < shelf.n(); g++) {
                set |= rest % 10 < p ? 1 << g : 0;
                rest /= 10;
            }
            Next next = next(shelf, shelf.tops(), set);
            over += (next == null ? 0 : next.minutes) == m ? 1 : 0;
        }
        int common = BigInteger.valueOf(over).gcd(BigInteger.valueOf(whole)).intValue();
        return (under ? whole : over) / common;
    }

    /** By k: the minutes up to 30 at which the k-th event behind minute 0 can be. */
    static List<Set<Integer>> kth(Shelf shelf) {
        Map<List<Integer>, Set<Integer>> layer = new HashMap<>();
        layer.put(shelf.tops(), Set.of(0));
        List<Set<Integer>> all = new ArrayList<>();
        for (int k = 0; k <= 20; k++) {
            Set<Integer> minutes = new HashSet<>();
            Map<List<Integer>, Set<Integer>> then = new HashMap<>();
            for (Map.Entry<List<Integer>, Set<Integer>> e : layer.entrySet()) {
                minutes.addAll(e.getValue());
                for (int set = 0; set < sets(shelf); set++) {
                    Next next = next(shelf, e.getKey(), set);
                    for (int m : e.getValue()) {
                        if (next != null && m + next.minutes <= 30) {
                            then.computeIfAbsent(next.tops, x -> new HashSet<>()).add(m + next.minutes);
                        }
                    }
                }
            }
            all.add(minutes);
            layer = then;
        }
        return all;
    }

    static int still(Shelf shelf) {
        int most = 0;
        for (Set<List<Integer>> rows : reach(shelf)) {
            for (List<Integer> tops : rows) {
                for (int set = 0; set < sets(shelf); set++) {
                    Next next = next(shelf, tops, set);
                    most = Math.max(most, next == null ? 0 : next.minutes);
                }
            }
        }
        return most;
    }

    /** As times() has it: 9 COMMON, 10 SAND, 11 EVEN, 12 DRY, 13 LIKE. */
    static int ofShelf(Shelf shelf, int what) {
        int found = 0;
        for (int g = 0; g < shelf.n(); g++) {
            int top = shelf.tops().get(g);
            switch (what) {
                case 9:
                    found = BigInteger.valueOf(found).gcd(BigInteger.valueOf(shelf.size(g))).intValue();
                    break;
                case 10:
                    found += top;
                    break;
                case 11:
                    found |= top == shelf.size(g) - top ? 1 << g : 0;
                    break;
                case 12:
                    found = Math.max(found, top);
                    break;
                default:
                    for (int h = 0; h < g; h++) {
                        found += shelf.size(h) == shelf.size(g) && shelf.tops().get(h) == top ? 1 : 0;
                    }
                    break;
            }
        }
        return found;
    }

    /** A day as it goes: deeds as kind and number. */
    static final class Day {
        final int n;
        final int[] size = new int[4];
        final int[] top = new int[4];
        final boolean[] laid = new boolean[4];
        int minute;
        int turns;
        int idle;
        /** By minutes: the glasses that ran out. */
        final TreeMap<Integer, List<Integer>> out = new TreeMap<>();

        Day(Shelf shelf) {
            n = shelf.n();
            for (int g = 0; g < n; g++) {
                size[g] = shelf.size(g);
                top[g] = shelf.tops().get(g);
            }
        }

        void minute() {
            minute++;
            boolean ran = false;
            for (int g = 0; g < n; g++) {
                if (!laid[g] && top[g] > 0) {
                    ran = true;
                    top[g]--;
                    if (top[g] == 0) {
                        out.computeIfAbsent(minute, m -> new ArrayList<>()).add(g);
                    }
                }
            }
            idle += ran ? 0 : 1;
        }

        boolean deed(int kind, int number) {
            if (kind == 0) {
                if (minute + number > 99) {
                    return false;
                }
                for (int i = 0; i < number; i++) {
                    minute();
                }
                return true;
            }
            if (number >= n) {
                return false;
            }
            if (kind == 1 && !laid[number]) {
                top[number] = size[number] - top[number];
                turns++;
                return true;
            }
            if (kind == 2 && !laid[number] || kind == 3 && laid[number]) {
                laid[number] = kind == 2;
                return true;
            }
            if (kind == 4 && size[number] - top[number] > 0 && size[number] > 1) {
                size[number]--;
                return true;
            }
            return false;
        }

        int play(List<int[]> deeds) {
            for (int k = 0; k < deeds.size(); k++) {
                if (!deed(deeds.get(k)[0], deeds.get(k)[1])) {
                    return k;
                }
            }
            return deeds.size();
        }

        int ranOut() {
            return out.values().stream().mapToInt(List::size).sum();
        }

        int ranOut(int g) {
            return (int) out.values().stream().filter(x -> x.contains(g)).count();
        }

        int look(int what) {
            int k = what % 10;
            switch (what) {
                case 0:
                    return minute;
                case 1:
                    int bits = 0;
                    for (int g = 0; g < n; g++) {
                        bits |= laid[g] ? 1 << g : 0;
                    }
                    return bits;
                case 2:
                    return ranOut();
                case 3:
                    return turns;
                default:
                    if (what < 10 || what >= 40 || k >= n) {
                        return NONE;
                    }
                    return what < 20 ? top[k] : what < 30 ? size[k] - top[k] : ranOut(k);
            }
        }

        int after(int what) {
            switch (what) {
                case 0:
                    return ranOut();
                case 1:
                    return out.isEmpty() ? NONE : out.firstKey();
                case 2:
                    return out.values().stream().mapToInt(List::size).max().orElse(0);
                case 3:
                    return idle;
                case 4:
                    return turns;
                case 5:
                    int keen = NONE;
                    for (int g = n - 1; g >= 0; g--) {
                        if (ranOut(g) > 0 && (keen == NONE || ranOut(g) >= ranOut(keen))) {
                            keen = g;
                        }
                    }
                    return keen;
                default:
                    return -2;
            }
        }
    }

    static Day drawn(Shelf shelf, int seed, int n) {
        Day day = new Day(shelf);
        int x = seed;
        for (int i = 0; i < n; i++) {
            x = x * 1103515245 + 12345;
            int what = (x >>> 16) % 10;
            if (what > 2 && shelf.n() == 0) {
                continue;
            }
            x = x * 1103515245 + 12345;
            if (what <= 2) {
                day.deed(0, 1 + (x >>> 16) % 9);
            } else {
                int[] kinds = {0, 0, 0, 1, 1, 1, 2, 3, 3, 4};
                day.deed(kinds[what], (x >>> 16) % shelf.n());
            }
        }
        return day;
    }

    /** The rows of tops that fit, in the order of their numbers, each with what ran out at which minute. */
    static TreeMap<Integer, Day> fits(Shelf shelf, List<int[]> deeds, List<int[]> facts) {
        TreeMap<Integer, Day> fitting = new TreeMap<>();
        int[] tops = new int[shelf.n()];
        while (true) {
            Day day = new Day(shelf.withTops(tops));
            day.play(deeds);
            while (day.minute < 99) {
                day.minute();
            }
            boolean so = true;
            for (int[] fact : facts) {
                List<Integer> out = day.out.getOrDefault(fact[0], List.of());
                so &= fact[1] == NONE ? out.isEmpty() : out.contains(fact[1]);
            }
            if (so) {
                int number = 1;
                for (int top : tops) {
                    number = number * 10 + top;
                }
                fitting.put(number, day);
            }
            int g = 0;
            while (g < tops.length && tops[g] == shelf.size(g)) {
                tops[g++] = 0;
            }
            if (g == tops.length) {
                return fitting;
            }
            tops[g]++;
        }
    }

    static int fitsAnswer(Shelf shelf, TreeMap<Integer, Day> fitting, int what) {
        List<Integer> numbers = new ArrayList<>(fitting.keySet());
        if (what == 0) {
            return numbers.size();
        }
        if (what == 1) {
            int best = NONE;
            int least = Integer.MAX_VALUE;
            for (int m = 1; m <= 40 && !numbers.isEmpty(); m++) {
                int any = 0;
                for (Day day : fitting.values()) {
                    any += day.out.containsKey(m) ? 1 : 0;
                }
                if (Math.max(any, numbers.size() - any) < least) {
                    least = Math.max(any, numbers.size() - any);
                    best = m;
                }
            }
            return best;
        }
        if (what == 2 || what == 3) {
            int bits = 0;
            for (int number : numbers) {
                for (int g = 0; g < shelf.n(); g++) {
                    bits |= topIn(number, g) == (what == 2 ? shelf.size(g) : 0) ? 1 << g : 0;
                }
            }
            return bits;
        }
        if (what >= 4 && what < 8) {
            Set<Integer> tops = new HashSet<>();
            for (int number : numbers) {
                tops.add(what - 4 < shelf.n() ? topIn(number, what - 4) : NONE);
            }
            return tops.size() == 1 ? tops.iterator().next() : NONE;
        }
        return what >= 10 && what - 10 < numbers.size() ? numbers.get(what - 10) : -2;
    }

    private static int topIn(int number, int g) {
        return String.valueOf(number).charAt(g + 1) - '0';
    }

    private Model() {
    }
}
