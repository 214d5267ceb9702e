import java.util.ArrayList;
import java.util.List;
import java.util.Random;

/**
 * Promises 1 to 5, 30 to 32 in runs of calls: what an object holds behind each call is held here as plain texts, and
 * what it answers of its texts must be what a new object answers that was told nothing but these.
 */
public final class RunsTest {
    private static final int[] SORTS_ODD = {-1, 4, Integer.MIN_VALUE, Integer.MAX_VALUE};
    private static final Check CHECK = new Check();

    private final Random random;
    private final SandGlasses x = new SandGlasses();
    private final Held[] images = new Held[3];
    private Held held = new Held();

    private RunsTest(int seed) {
        random = new Random(seed);
    }

    public static void main(String[] args) {
        for (int seed = 0; seed < 300; seed++) {
            RunsTest run = new RunsTest(seed);
            for (int call = 0; call < 60; call++) {
                run.step();
            }
        }
        CHECK.finish();
    }

    /** All that is told, as the document has it. */
    private static final class Held {
        String tape = "";
        int fault;
        int place = -1;
        final List<List<String>> texts = new ArrayList<>();

        Held() {
            for (int sort = 0; sort < 4; sort++) {
                texts.add(new ArrayList<>());
            }
        }

        Held copy() {
            Held other = new Held();
            other.tape = tape;
            other.fault = fault;
            other.place = place;
            for (int sort = 0; sort < 4; sort++) {
                other.texts.get(sort).addAll(texts.get(sort));
            }
            return other;
        }
    }

    private void step() {
        switch (random.nextInt(12)) {
            case 0:
                feed();
                break;
            case 1:
                cut();
                break;
            case 2:
            case 3:
            case 4:
                put(TextsTest.sample(random, random.nextInt(4)));
                text(random.nextInt(4));
                break;
            case 5:
                int sort = random.nextInt(4);
                put(TextsTest.spoil(random, TextsTest.sample(random, sort)));
                text(sort);
                break;
            case 6:
                text(random.nextInt(3) == 0 ? SORTS_ODD[random.nextInt(4)] : random.nextInt(4));
                break;
            case 7:
                image();
                break;
            case 8:
            case 9:
            case 10:
                put(likeShelf());
                text(0);
                break;
            default:
                again();
                break;
        }
        look();
    }

    private void feed() {
        int room = held.tape.length() + 20 <= 600 ? held.tape.length() + 20 : -1;
        String blanks = "\n \n ".repeat(5);
        CHECK.due("feed", x.feed(0x0a200a20, 0x0a200a20, 0x0a200a20, 0x0a200a20, 0x0a200a20), room);
        held.tape += room == -1 ? "" : blanks;
    }

    private void cut() {
        int n = random.nextInt(held.tape.length() + 3) - 1;
        boolean can = n >= 0 && n <= held.tape.length();
        CHECK.due("end " + n, x.end(n), can ? n : -1);
        held.tape = can ? held.tape.substring(0, n) : held.tape;
    }

    private void put(String text) {
        if (held.tape.length() + text.length() + 20 <= 600 && Check.put(x, text)) {
            held.tape += text;
        }
    }

    /** Shelves that differ from one another in a top or a price alone, more often than not. */
    private String likeShelf() {
        int glasses = random.nextInt(4) == 0 ? random.nextInt(4) : 2;
        StringBuilder text = new StringBuilder();
        for (int g = 0; g < glasses; g++) {
            text.append("glass ").append(5 - 2 * g + random.nextInt(8) / 7).append(' ').append(random.nextInt(2)).append(';');
        }
        if (glasses > 0 && random.nextInt(2) == 0) {
            text.append("price ").append(random.nextInt(glasses)).append(' ').append(random.nextInt(4)).append(';');
        }
        return text.toString();
    }

    private void text(int sort) {
        int at = random.nextInt(5) - 2;
        CHECK.due("text " + sort + " " + at + " [" + held.tape + "]", x.text(sort, at), taken(sort, at));
    }

    private int taken(int sort, int at) {
        String tape = held.tape;
        held.tape = "";
        held.fault = 0;
        held.place = -1;
        if (sort < 0 || sort > 3) {
            return -2;
        }
        List<String> texts = held.texts.get(sort);
        if (at == -1 ? texts.size() == 2 : at < 0 || at >= texts.size()) {
            return -2;
        }
        int[] judged = TextsTest.judge(sort, tape);
        held.fault = judged[0];
        held.place = judged[1];
        if (judged[0] != 0) {
            return -1;
        }
        if (at == -1) {
            texts.add(tape);
            return texts.size() - 1;
        }
        texts.set(at, tape);
        return at;
    }

    private void image() {
        int k = random.nextInt(5) - 1;
        boolean can = k >= 0 && k <= 2;
        CHECK.due("image " + k, x.image(k), can);
        if (can) {
            images[k] = held.copy();
        }
    }

    private void again() {
        int k = random.nextInt(5) - 1;
        boolean can = k >= 0 && k <= 2 && images[k] != null;
        CHECK.due("again " + k, x.again(k), can);
        if (can) {
            held = images[k].copy();
        }
    }

    private void look() {
        CHECK.due("fault", x.fault(0), held.fault);
        CHECK.due("place", x.fault(1), held.place);
        CHECK.due("no more on the tape", x.end(held.tape.length() + 1), -1);
        CHECK.due("the tape's length", x.end(held.tape.length()), held.tape.length());
        SandGlasses fresh = new SandGlasses();
        for (int sort = 0; sort < 4; sort++) {
            List<String> texts = held.texts.get(sort);
            CHECK.due("count " + sort, x.count(sort), texts.size());
            for (int number = 0; number < texts.size(); number++) {
                Check.tell(fresh, sort, -1, texts.get(number));
                sameLines(fresh, sort, number);
            }
        }
        sameAnswers(fresh);
    }

    private void sameLines(SandGlasses fresh, int sort, int number) {
        int lines = TextsTest.lines(fresh, sort, number);
        CHECK.due("lines of " + sort + " " + number, TextsTest.lines(x, sort, number), lines);
        for (int k = 0; k <= lines; k++) {
            for (int what = 0; what < 3; what++) {
                CHECK.due("line " + k + " of " + sort + " " + number, Look.line(x, sort, number, k, what),
                    Look.line(fresh, sort, number, k, what));
            }
        }
    }

    /** Calls that keep what they worked out of a shelf, in any order, some twice. */
    private void sameAnswers(SandGlasses fresh) {
        for (int i = 0; i < 6; i++) {
            int shelf = random.nextInt(2);
            int t = 1 + random.nextInt(10);
            int what = random.nextInt(12);
            CHECK.due("tell " + t + " " + what, x.tell(shelf, t, what), fresh.tell(shelf, t, what));
            CHECK.due("purse " + t, x.purse(shelf, t), fresh.purse(shelf, t));
            CHECK.due("span " + t, x.span(shelf, t), fresh.span(shelf, t));
            CHECK.due("need " + t, x.need(shelf, t, true), fresh.need(shelf, t, true));
            CHECK.due("plan " + what, x.plan(shelf, what & 1, 1), fresh.plan(shelf, what & 1, 1));
            CHECK.due("luck " + t, x.luck(shelf, t, false), fresh.luck(shelf, t, false));
            CHECK.due("times " + what, x.times(shelf, what), fresh.times(shelf, what));
            CHECK.due("wheel " + (what & 3), x.wheel(shelf, what & 3), fresh.wheel(shelf, what & 3));
            CHECK.due("fits " + what, x.fits(shelf, 0, what & 1, what), fresh.fits(shelf, 0, what & 1, what));
            CHECK.due("after " + what, x.after(shelf, what & 1, what), fresh.after(shelf, what & 1, what));
        }
    }
}
