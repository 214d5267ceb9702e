/** DRAWN in terms 4 and promise 23 at their edges: numbers drawn by a seed, days by them. */
final class DrawnBoundaries {
    private static final int MIN = Integer.MIN_VALUE;
    private static final int MAX = Integer.MAX_VALUE;
    private static final long WHOLE = 1L << 32;

    private final Sentences due;
    private long x;

    DrawnBoundaries(Sentences due) {
        this.due = due;
    }

    void run() {
        numbers();
        times();
        deeds();
        mayNot();
        withoutGlasses();
        call();
    }

    /** A number is drawn, as the document says it, by long numbers and remainders alone. */
    private int draw(int below) {
        x = Math.floorMod(x * 1103515245L + 12345L, WHOLE);
        return (int) (x / 65536 % below);
    }

    /** The first seed from a number on by which these numbers, below 10 and below glasses or 9 by turns, are drawn. */
    private int seedFor(int glasses, int... numbers) {
        for (int seed = 0; seed < 1000000; seed++) {
            x = seed;
            boolean as = true;
            for (int i = 0; i < numbers.length && as; i++) {
                boolean wait = i % 2 == 1 && numbers[i - 1] <= 2;
                as = draw(i % 2 == 0 ? 10 : wait ? 9 : glasses) == numbers[i];
            }
            if (as) {
                return seed;
            }
        }
        return -1;
    }

    private void numbers() {
        due.by("Terms 4", "DRAWN by a SEED, x; a number below n is drawn: x becomes x * 1103515245 + 12345 (of 32 bits), "
            + "it is x shifted right by 16 without sign, remainder by n:");
        SandGlasses glass = due.with("glass 5 5;");
        // From 0 on x is 12345, 0 is drawn: wait; then -740551042, 54236 of it, 2 below 9: three minutes.
        due.row("seed 0", new int[] {glass.drawn(0, 0, 1, 0), glass.drawn(0, 0, 1, 10)}, 3, 2);
        for (int seed : new int[] {0, 1, -1, MIN, MAX, 12345, -12345, 0x40000000, 0x7fff0000, 0x80000001}) {
            for (int n = 1; n <= 12; n++) {
                due.due("seed " + seed + " " + n, glass.drawn(0, seed, n, 0), minutesOfOne(seed, n));
            }
        }
    }

    /** The minutes of a day with a glass, by the numbers that are drawn; it stays below minute 99. */
    private int minutesOfOne(int seed, int n) {
        x = Math.floorMod((long) seed, WHOLE);
        int minutes = 0;
        for (int i = 0; i < n; i++) {
            if (draw(10) <= 2) {
                int wait = 1 + draw(9);
                minutes += minutes + wait > 99 ? 0 : wait;
            } else {
                draw(1);
            }
        }
        return minutes;
    }

    private void times() {
        due.by("Terms 4", "n times, 0 to 60:");
        SandGlasses glass = due.with("glass 5 5;");
        for (int seed = 0; seed < 20; seed++) {
            for (int n : new int[] {0, 1, 2, 59, 60}) {
                due.due("seed " + seed + " " + n + " times", glass.drawn(0, seed, n, 0), minutesOfOne(seed, n));
            }
        }
        due.due("not at all: as told", glass.drawn(0, 7, 0, 10), 5);
        due.due("60 is in", glass.drawn(0, 0, 60, 3) >= 0, true);
        due.due("61 is out", glass.drawn(0, 0, 61, 3), -1);
        due.due("-1 is out", glass.drawn(0, 0, -1, 3), -1);
    }

    private void deeds() {
        due.by("Terms 4", "a number below 10: 0 to 2: wait, 1 more than a number below 9; 3 to 5: turn, 6: lay, 7, 8: stand, "
            + "9: leak, a GLASS, below all; each, if it may.");
        SandGlasses two = due.with("glass 7 2;glass 7 2;");
        for (int kind = 0; kind <= 2; kind++) {
            due.due("wait of 1", two.drawn(0, seedFor(2, kind, 0), 1, 0), 1);
            due.due("wait of 9", two.drawn(0, seedFor(2, kind, 8), 1, 0), 9);
        }
        for (int g = 0; g <= 1; g++) {
            for (int kind = 3; kind <= 9; kind++) {
                int seed = seedFor(2, kind, g);
                due.due(kind + " goes by no minute", two.drawn(0, seed, 1, 0), 0);
                due.due(kind + " turns", two.drawn(0, seed, 1, 3), kind <= 5 ? 1 : 0);
                due.due(kind + " top of " + g, two.drawn(0, seed, 1, 10 + g), kind <= 5 ? 5 : 2);
                due.due(kind + " bottom of " + g, two.drawn(0, seed, 1, 20 + g), kind <= 5 ? 2 : kind == 9 ? 4 : 5);
                due.due(kind + " lays", two.drawn(0, seed, 1, 1), kind == 6 ? 1 << g : 0);
                due.due(kind + " bottom of the other", two.drawn(0, seed, 1, 21 - g), 5);
            }
            for (int stand = 7; stand <= 8; stand++) {
                int seed = seedFor(2, 6, g, stand, g);
                due.due("laid", two.drawn(0, seed, 1, 1), 1 << g);
                due.due("stood up", two.drawn(0, seed, 2, 1), 0);
            }
        }
        SandGlasses four = due.with("glass 7 2;".repeat(4));
        for (int g = 0; g <= 3; g++) {
            due.due("of four", four.drawn(0, seedFor(4, 6, g), 1, 1), 1 << g);
        }
    }

    private void mayNot() {
        due.by("Terms 4", "each, if it may.");
        SandGlasses full = due.with("glass 1 1;");
        due.due("no leak of nothing", full.drawn(0, seedFor(1, 9, 0), 1, 10), 1);
        due.due("no stand of one that stands", full.drawn(0, seedFor(1, 7, 0), 1, 1), 0);
        int seed = seedFor(1, 6, 0, 3, 0);
        due.row("no turn of a laid one", new int[] {full.drawn(0, seed, 2, 1), full.drawn(0, seed, 2, 3)}, 1, 0);
        seed = seedFor(1, 6, 0, 3, 0, 7, 0, 3, 0);
        due.row("what comes behind is done", new int[] {full.drawn(0, seed, 3, 1), full.drawn(0, seed, 4, 3)}, 0, 1);
        int left = 0;
        for (seed = 0; seed < 60; seed++) {
            due.due("no wait beyond minute 99", full.drawn(0, seed, 60, 0), minutesOfOne(seed, 60));
            left += full.drawn(0, seed, 60, 0) > 90 ? 1 : 0;
        }
        due.due("some days come that far", left > 10, true);
    }

    private void withoutGlasses() {
        due.by("Terms 4", "(Without GLASSES 3 to 9 draw no more, nothing is done.)");
        SandGlasses empty = due.with("");
        for (int seed = 0; seed < 40; seed++) {
            for (int n : new int[] {1, 2, 3, 10, 60}) {
                x = seed;
                int minutes = 0;
                for (int i = 0; i < n; i++) {
                    int wait = draw(10) <= 2 ? 1 + draw(9) : 0;
                    minutes += minutes + wait > 99 ? 0 : wait;
                }
                due.due("seed " + seed + " " + n, empty.drawn(0, seed, n, 0), minutes);
                due.due("turns", empty.drawn(0, seed, n, 3), 0);
                due.due("laid", empty.drawn(0, seed, n, 1), 0);
            }
        }
    }

    private void call() {
        due.by("Promise 23", "DRAWN, n times, what as state().");
        SandGlasses two = due.with("glass 7 2;glass 1 1;", "lay 0;turn 0;");
        int seed = seedFor(2, 6, 0, 3, 1, 4, 1, 0, 2);
        int[] got = new int[10];
        int[] what = {0, 1, 2, 3, 10, 11, 20, 21, 30, 31};
        for (int i = 0; i < what.length; i++) {
            got[i] = two.drawn(0, seed, 4, what[i]);
        }
        due.row("lay, turn, turn, wait 3", got, 3, 1, 1, 2, 2, 0, 5, 1, 0, 1);
        due.due("the shelf is as told", two.state(0, 0, 0, 10), 2);
        due.by("Promise 23", "NONE: there is none such, another n, or for another what.");
        for (int none : new int[] {1, 2, -1, MIN, MAX}) {
            due.due("shelf " + none, two.drawn(none, 0, 1, 0), -1);
        }
        for (int n : new int[] {-1, 61, MIN, MAX}) {
            due.due("n " + n, two.drawn(0, 0, n, 0), -1);
        }
        for (int other : new int[] {-1, 4, 9, 12, 13, 19, 22, 23, 29, 32, 33, 40, MIN, MAX}) {
            due.due("what " + other, two.drawn(0, 0, 1, other), -1);
        }
    }
}
