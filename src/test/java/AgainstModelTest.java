import java.util.ArrayList;
import java.util.List;
import java.util.Random;
import java.util.Set;
import java.util.TreeMap;

/** Random shelves, days, logs and orders: all calls against the plain model of the document. */
public final class AgainstModelTest {
    private static final String[] KINDS = {"wait", "turn", "lay", "stand", "leak"};
    private final Check check = new Check();
    private final Random random;

    private AgainstModelTest(long seed) {
        random = new Random(seed);
    }

    public static void main(String[] args) {
        AgainstModelTest test = new AgainstModelTest(20261118);
        int rounds = args.length > 0 ? Integer.parseInt(args[0]) : 60;
        SandGlasses x = withEmptyTexts();
        for (int round = 0; round < rounds; round++) {
            if (round % 20 < 10) {
                x = withEmptyTexts();
            }
            test.round(x, round, round % 4 == 3 ? 7 : 2 + round % 6, round % 5);
        }
        test.check.finish();
    }

    private static SandGlasses withEmptyTexts() {
        SandGlasses x = new SandGlasses();
        for (int i = 0; i < 8; i++) {
            Check.tell(x, i / 2, -1, "");
        }
        return x;
    }

    private void round(SandGlasses x, int round, int largest, int most) {
        int at = round % 2;
        Model.Shelf shelf = shelf(largest, most);
        List<int[]> deeds = deeds(shelf);
        List<int[]> facts = facts(shelf, deeds);
        List<Integer> spans = new ArrayList<>();
        for (int i = random.nextInt(7); i > 0; i--) {
            spans.add(1 + random.nextInt(random.nextBoolean() ? 30 : 9));
        }
        check.due("shelf text", Check.tell(x, 0, at, textOf(shelf)), at);
        check.due("day text", Check.tell(x, 1, at, dayText(deeds)), at);
        check.due("log text", Check.tell(x, 2, at, logText(facts)), at);
        StringBuilder order = new StringBuilder();
        spans.forEach(s -> order.append("span ").append(s).append(";"));
        check.due("order text", Check.tell(x, 3, at, order.toString()), at);
        String name = textOf(shelf) + " | " + dayText(deeds) + " | " + logText(facts) + " | " + order + " : ";

        day(x, name, at, shelf, deeds);
        cloth(x, name, at, shelf, deeds, facts);
        draws(x, name, at, shelf);
        tells(x, name, at, shelf);
        times(x, name, at, shelf);
        rounds(x, name, at, shelf);
        for (int k = -1; k <= spans.size() + 1; k++) {
            int want = k < 0 || k > spans.size() ? -1 : Model.plan(shelf, spans, k);
            check.due(name + "plan " + k, x.plan(at, at, k), want);
        }
    }

    private Model.Shelf shelf(int largest, int most) {
        Model.Shelf shelf = new Model.Shelf();
        for (int g = 0; g < most; g++) {
            int size = 1 + random.nextInt(largest);
            int top = random.nextBoolean() ? 0 : random.nextInt(size + 1);
            int price = random.nextBoolean() ? 1 : random.nextInt(10);
            shelf.glasses.add(new int[] {size, top, price});
        }
        return shelf;
    }

    private List<int[]> deeds(Model.Shelf shelf) {
        List<int[]> deeds = new ArrayList<>();
        Model.Day day = new Model.Day(shelf);
        int many = random.nextInt(41);
        boolean wild = random.nextInt(4) == 0;
        for (int tries = 0; tries < 400 && deeds.size() < many; tries++) {
            int kind = random.nextInt(5);
            int number = kind == 0 ? 1 + random.nextInt(random.nextBoolean() ? 9 : 3) : random.nextInt(4);
            boolean could = day.deed(kind, number);
            if (could || wild && random.nextInt(20) == 0) {
                deeds.add(new int[] {kind, number});
            }
        }
        return deeds;
    }

    private List<int[]> facts(Model.Shelf shelf, List<int[]> deeds) {
        int[] tops = new int[shelf.n()];
        for (int g = 0; g < tops.length; g++) {
            tops[g] = random.nextInt(shelf.size(g) + 1);
        }
        Model.Day day = new Model.Day(shelf.withTops(tops));
        day.play(deeds);
        while (day.minute < 99) {
            day.minute();
        }
        List<int[]> facts = new ArrayList<>();
        int many = random.nextInt(5);
        for (int i = 0; i < many; i++) {
            int minute = 1 + random.nextInt(random.nextBoolean() ? 40 : 12);
            List<Integer> out = day.out.getOrDefault(minute, List.of());
            int glass = out.isEmpty() ? -1 : out.get(0);
            facts.add(new int[] {minute, random.nextInt(15) == 0 ? random.nextInt(4) : glass});
        }
        return facts;
    }

    private static String textOf(Model.Shelf shelf) {
        StringBuilder text = new StringBuilder();
        for (int g = 0; g < shelf.n(); g++) {
            int[] glass = shelf.glasses.get(g);
            text.append("glass ").append(glass[0]).append(' ').append(glass[1]).append(';');
            if (glass[2] != 1) {
                text.append("price ").append(g).append(' ').append(glass[2]).append(';');
            }
        }
        return text.toString();
    }

    private static String dayText(List<int[]> deeds) {
        StringBuilder text = new StringBuilder();
        for (int[] deed : deeds) {
            text.append(KINDS[deed[0]]).append(' ').append(deed[1]).append(';');
        }
        return text.toString();
    }

    private static String logText(List<int[]> facts) {
        StringBuilder text = new StringBuilder();
        for (int[] fact : facts) {
            text.append(fact[1] < 0 ? "quiet" : "ran " + fact[1]).append(' ').append(fact[0]).append(';');
        }
        return text.toString();
    }

    private void day(SandGlasses x, String name, int at, Model.Shelf shelf, List<int[]> deeds) {
        Model.Day whole = new Model.Day(shelf);
        int stop = whole.play(deeds);
        check.due(name + "stop", x.stop(at, at), stop);
        for (int what = -1; what <= 6; what++) {
            check.due(name + "after " + what, x.after(at, at, what), whole.after(what));
        }
        for (int n = -1; n <= deeds.size() + 1; n++) {
            Model.Day day = new Model.Day(shelf);
            boolean there = n >= 0 && n <= stop;
            if (there) {
                day.play(deeds.subList(0, n));
            }
            for (int what = -2; what <= 41; what++) {
                int want = there ? day.look(what) : -1;
                check.due(name + "state " + n + " " + what, x.state(at, at, n, what), want);
            }
        }
    }

    private void cloth(SandGlasses x, String name, int at, Model.Shelf shelf, List<int[]> deeds, List<int[]> facts) {
        TreeMap<Integer, Model.Day> fitting = Model.fits(shelf, deeds, facts);
        for (int what = -2; what <= 12; what++) {
            int want = Model.fitsAnswer(shelf, fitting, what);
            check.due(name + "fits " + what, x.fits(at, at, at, what), want);
        }
        for (int i = 0; i < 10; i++) {
            int what = 10 + random.nextInt(fitting.size() + 2);
            int want = Model.fitsAnswer(shelf, fitting, what);
            check.due(name + "fits " + what, x.fits(at, at, at, what), want);
        }
    }

    private void draws(SandGlasses x, String name, int at, Model.Shelf shelf) {
        for (int i = 0; i < 5; i++) {
            int seed = random.nextInt();
            int n = i == 0 ? 60 : random.nextInt(61);
            Model.Day day = Model.drawn(shelf, seed, n);
            for (int what = -1; what <= 40; what++) {
                check.due(name + "drawn " + seed + " " + n + " " + what, x.drawn(at, seed, n, what), day.look(what));
            }
        }
    }

    private void tells(SandGlasses x, String name, int at, Model.Shelf shelf) {
        Model.Way[] rows = Model.rows(shelf);
        int[] prices = Model.least(shelf, false);
        int[] events = Model.least(shelf, true);
        for (int t = 1; t <= 30; t++) {
            Model.Way row = rows[t];
            check.due(name + "turns " + t, x.tell(at, t, 0), row == null ? -1 : row.turns());
            check.due(name + "haste " + t, x.tell(at, t, 1), events[t]);
            check.due(name + "cheap " + t, x.tell(at, t, 2), prices[t]);
            for (int g = 0; g < 4; g++) {
                int bit = g;
                long used = row == null ? -1 : row.sets().stream().filter(s -> (s >> bit & 1) == 1).count();
                check.due(name + "used " + t + " " + g, x.tell(at, t, 3 + g), g < shelf.n() ? used : -1);
            }
            for (int k = 0; k < 40; k++) {
                boolean there = row != null && k < row.sets().size();
                check.due(name + "set " + t + " " + k, x.tell(at, t, 10 + k), there ? row.sets().get(k) : -1);
                check.due(name + "minute " + t + " " + k, x.tell(at, t, 50 + k), there ? row.minutes().get(k) : -1);
            }
            check.due(name + "span " + t, x.span(at, t), Model.span(shelf, t));
        }
        for (int m = 0; m <= 99; m++) {
            int bits = 0;
            for (int t = 1; t <= 30; t++) {
                bits |= prices[t] >= 0 && prices[t] <= m ? 1 << t : 0;
            }
            check.due(name + "purse " + m, x.purse(at, m), bits);
        }
    }

    private void times(SandGlasses x, String name, int at, Model.Shelf shelf) {
        List<Set<List<Integer>>> reach = Model.reach(shelf);
        Model.Way[] rows = Model.rows(shelf);
        int[] alone = new int[Model.sets(shelf)];
        for (int set = 0; set < alone.length; set++) {
            alone[set] = Model.times(shelf.only(set));
        }
        int times = alone[alone.length - 1];
        int dearest = -1;
        int free = 0;
        String bits = "";
        for (int t = 1; t <= 30; t++) {
            bits += rows[t] == null ? "0" : "1";
            if (rows[t] != null && (dearest < 0 || rows[t].turns() > rows[dearest].turns())) {
                dearest = t;
            }
            free |= rows[t] != null && rows[t].turns() == 0 ? 1 << t : 0;
        }
        int longest = 0;
        for (String row : bits.split("0")) {
            longest = Math.max(longest, row.length());
        }
        Set<List<Integer>> all = new java.util.HashSet<>();
        reach.forEach(all::addAll);
        int first = bits.indexOf('1');
        int last = bits.lastIndexOf('1');
        int gap = bits.indexOf('0');
        check.due(name + "times 0", x.times(at, 0), times);
        check.due(name + "times 1", x.times(at, 1), all.size());
        check.due(name + "times 2", x.times(at, 2), first < 0 ? -1 : first + 1);
        check.due(name + "times 3", x.times(at, 3), last < 0 ? -1 : last + 1);
        check.due(name + "times 4", x.times(at, 4), gap < 0 ? -1 : gap + 1);
        check.due(name + "times 5", x.times(at, 5), longest);
        check.due(name + "times 6", x.times(at, 6), dearest);
        check.due(name + "times 7", x.times(at, 7), dearest < 0 ? 0 : rows[dearest].turns());
        check.due(name + "times 8", x.times(at, 8), free);
        for (int what = 9; what <= 13; what++) {
            check.due(name + "times " + what, x.times(at, what), Model.ofShelf(shelf, what));
        }
        check.due(name + "times 14", x.times(at, 14), Model.still(shelf));
        for (int t = 1; t <= 30; t++) {
            int couples = 0;
            for (int set = 0; set < alone.length; set++) {
                couples += Integer.bitCount(set) == 2 && (alone[set] >> t & 1) == 1 ? 1 : 0;
            }
            check.due(name + "couples " + t, x.couples(at, t), couples);
        }
        for (int t : new int[] {1, 2, 5, 9, 13, 17, 24, 30}) {
            check.due(name + "need " + t, x.need(at, t, false), Model.need(shelf, t, false));
            check.due(name + "which " + t, x.need(at, t, true), Model.need(shelf, t, true));
        }
        for (int g = 0; g < 4; g++) {
            check.due(name + "alone " + g, x.times(at, 20 + g), g < shelf.n() ? alone[1 << g] : -2);
        }
        for (int t = 0; t <= 30; t++) {
            check.due(name + "crowd " + t, x.crowd(at, t), reach.get(t).size());
        }
        List<Set<Integer>> kth = Model.kth(shelf);
        for (int k = 0; k <= 20; k++) {
            int least = kth.get(k).stream().min(Integer::compare).orElse(-1);
            int greatest = kth.get(k).stream().max(Integer::compare).orElse(-1);
            check.due(name + "early " + k, x.early(at, k, false), least);
            check.due(name + "late " + k, x.early(at, k, true), greatest);
        }
        check.due(name + "apart", x.apart(at, 1 - at), times & ~x.times(1 - at, 0));
    }

    private void rounds(SandGlasses x, String name, int at, Model.Shelf shelf) {
        check.due(name + "wheel 0", x.wheel(at, 0), Model.atOnce(shelf));
        int[] wheel = Model.wheel(shelf);
        for (int what = 1; what <= 3; what++) {
            check.due(name + "wheel " + what, x.wheel(at, what), wheel == null ? -1 : wheel[what - 1]);
        }
        for (int t = 1; t <= 30; t++) {
            check.due(name + "same " + t, x.same(at, t), Model.same(shelf, t));
        }
        for (int t = 1; t <= 10; t++) {
            check.due(name + "luck " + t, x.luck(at, t, false), Model.luck(shelf, t, false));
            check.due(name + "luck under " + t, x.luck(at, t, true), Model.luck(shelf, t, true));
        }
        for (int n = 1; n <= (shelf.n() == 4 ? 3 : 4); n++) {
            check.due(name + "duel " + n, x.duel(at, n, false), Model.duelEnd(shelf, shelf.tops(), 0, n, true));
            check.due(name + "first " + n, x.duel(at, n, true), Model.duelFirst(shelf, n));
        }
        for (int p = 0; p <= 10; p++) {
            for (int m = 0; m <= 7; m++) {
                check.due(name + "chance " + p + " " + m, x.chance(at, p, m, false), Model.chance(shelf, p, m, false));
                check.due(name + "chance under " + p + " " + m, x.chance(at, p, m, true),
                    Model.chance(shelf, p, m, true));
            }
        }
    }
}
