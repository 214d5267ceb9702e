/** Terms 3 and promises 17 to 20 at their edges: all at once, all turned, by chance, two by turns. */
final class GameBoundaries {
    private static final int MIN = Integer.MIN_VALUE;
    private static final int MAX = Integer.MAX_VALUE;
    private static final int ALL = 0x7ffffffe;
    private static final String ONE = "glass 1 0;";
    private static final String FOUR_SEVEN = "glass 4 0;glass 7 0;price 1 3;";

    private final Sentences due;

    GameBoundaries(Sentences due) {
        this.due = due;
    }

    void run() {
        atOnce();
        wheel();
        wheelCall();
        luck();
        luckCall();
        duel();
        duelCall();
        chance();
        chanceCall();
    }

    private void atOnce() {
        due.by("Terms 3", "ATONCE: minutes up to 30 (bits) at which all GLASSES (one or more) can RUN OUT at once.");
        due.due("one: 30 is in, 31 is out", due.with(ONE).wheel(0, 0), ALL);
        due.due("four", due.with(ONE.repeat(4)).wheel(0, 0), ALL);
        due.due("none", due.with("").wheel(0, 0), 0);
        due.due("30 is in", due.with("glass 5 0;").wheel(0, 0), Sentences.bits(5, 10, 15, 20, 25, 30));
        due.due("28 and 35", due.with("glass 7 7;").wheel(0, 0), Sentences.bits(7, 14, 21, 28));
        due.due("2 and 3: both with 2 at 2", due.with("glass 2 0;glass 3 0;").wheel(0, 0) & 31, Sentences.bits(4));
        due.due("not one without the other", due.with("glass 1 1;glass 7 7;").wheel(0, 0) & 7, Sentences.bits(2));
        due.due("left alone", due.with("glass 5 2;glass 7 2;").wheel(0, 0) & 7, Sentences.bits(2));
    }

    private void wheelIs(String shelf, int ahead, int events, int minutes) {
        SandGlasses x = due.with(shelf);
        due.row("wheel of " + shelf, new int[] {x.wheel(0, 1), x.wheel(0, 2), x.wheel(0, 3)}, ahead, events, minutes);
    }

    private void wheel() {
        due.by("Terms 3", "WHEEL: all GLASSES are TURNED at each EVENT, the one at minute 0, too: how many EVENTS there are ahead "
            + "of the first that has the TOPS (ahead of its TURNS) that a later one has, and behind how many EVENTS they come "
            + "again; how many minutes these take (none of these, if nothing RUNS OUT any more).");
        wheelIs(ONE, 0, 1, 1);
        wheelIs("glass 7 0;", 0, 1, 7);
        wheelIs("glass 7 6;", 1, 1, 7);
        wheelIs(FOUR_SEVEN, 0, 2, 8);
        wheelIs("glass 7 0;glass 4 0;", 0, 2, 8);
        wheelIs("glass 3 1;glass 3 3;", 1, 1, 3);
        wheelIs("glass 7 7;", -1, -1, -1);
        wheelIs("glass 7 7;glass 1 1;glass 3 3;glass 2 2;", -1, -1, -1);
        wheelIs("glass 7 7;glass 1 0;", 1, 2, 2);
        wheelIs("", -1, -1, -1);
    }

    private void wheelCall() {
        due.by("Promise 17", "What 0: ATONCE (bits), 1: WHEEL, EVENTS ahead, 2: how many, 3: how many minutes (NONE of these: none).");
        SandGlasses x = due.with("glass 5 2;");
        due.row("5 with 2: from 3 on, each 5", new int[] {x.wheel(0, 0), x.wheel(0, 1), x.wheel(0, 2), x.wheel(0, 3)},
            Sentences.bits(2, 3, 7, 8, 12, 13, 17, 18, 22, 23, 27, 28), 1, 1, 5);
        x = due.with("glass 5 5;");
        due.row("none, but at once it can", new int[] {x.wheel(0, 0), x.wheel(0, 1), x.wheel(0, 2), x.wheel(0, 3)},
            Sentences.bits(5, 10, 15, 20, 25, 30), -1, -1, -1);
        due.by("Promise 17", "-2: there is none such, or for another what.");
        for (int what : new int[] {-1, 4, MIN, MAX}) {
            due.due("what " + what, x.wheel(0, what), -2);
        }
        for (int shelf : new int[] {1, 2, -1, MIN, MAX}) {
            due.due("shelf " + shelf, x.wheel(shelf, 0), -2);
            due.due("shelf " + shelf, x.wheel(shelf, 1), -2);
        }
        due.due("a new object", new SandGlasses().wheel(0, 3), -2);
    }

    private void luckIs(String shelf, int t, long over, long under) {
        SandGlasses x = due.with(shelf);
        due.due("luck of " + t + " with " + shelf, x.luck(0, t, false), over);
        due.due("luck under of " + t + " with " + shelf, x.luck(0, t, true), under);
    }

    private void luck() {
        due.by("Terms 3", "LUCK of T, 1 .. 10: at each EVENT each GLASS is TURNED or not, both alike, each by itself: "
            + "how likely minute T is an EVENT, a fraction in least terms.");
        for (int t = 1; t <= 10; t++) {
            luckIs(ONE, t, 1, 1L << t);
        }
        luckIs(ONE.repeat(4), 1, 15, 16);
        luckIs(ONE.repeat(4), 10, 576650390625L, 1L << 40);
        luckIs("glass 7 0;glass 7 0;", 7, 3, 4);
        luckIs("glass 2 1;", 1, 1, 1);
        luckIs("glass 2 1;".repeat(4), 1, 1, 1);
        luckIs("glass 2 0;glass 4 0;", 4, 5, 8);
        luckIs("glass 7 0;", 6, 0, 1);
        luckIs("glass 7 0;", 8, 0, 1);
        luckIs("", 1, 0, 1);
        luckIs("", 10, 0, 1);
    }

    private void luckCall() {
        due.by("Promise 18", "LUCK of T, N, or (under) D.");
        luckIs("glass 5 5;", 10, 1, 4);
        luckIs("glass 5 5;", 5, 1, 2);
        due.by("Promise 18", "NONE: another T, or there is none such.");
        SandGlasses x = due.with(ONE);
        for (boolean under : new boolean[] {false, true}) {
            for (int t : new int[] {0, 11, 30, -1, MIN, MAX}) {
                due.due("T " + t, x.luck(0, t, under), -1);
            }
            for (int shelf : new int[] {1, 2, -1, MIN, MAX}) {
                due.due("shelf " + shelf, x.luck(shelf, 1, under), -1);
            }
        }
    }

    private void duelIs(String shelf, int n, int minute, int first) {
        SandGlasses x = due.with(shelf);
        due.due("duel of " + n + " with " + shelf, x.duel(0, n, false), minute);
        due.due("first of " + n + " with " + shelf, x.duel(0, n, true), first);
    }

    private void duel() {
        due.by("Terms 3", "DUEL of n, 0 .. 4: two by turns at the EVENTS, from minute 0 on, the first one first, n times in all, "
            + "TURN whichever they like: the minute of the EVENT behind the last of these (0, if n is 0; if nothing RUNS OUT any "
            + "more, the last EVENT there was: the duel ends then), if the first wants it late, the other one early;");
        duelIs(FOUR_SEVEN, 0, 0, -1);
        duelIs(FOUR_SEVEN, 1, 7, 2);
        duelIs(FOUR_SEVEN, 2, 7, 2);
        duelIs("glass 3 3;", 1, 3, 0);
        duelIs("glass 3 3;", 2, 3, 0);
        duelIs("glass 3 3;", 3, 3, 0);
        duelIs("glass 3 3;", 4, 3, 0);
        duelIs("glass 5 2;glass 5 4;glass 5 2;", 1, 3, 5);
        duelIs("", 1, 0, 0);
        duelIs("", 4, 0, 0);
        due.by("Terms 3", "the set that the first TURNS first, the least that is best.");
        duelIs("glass 2 1;", 1, 1, 0);
        duelIs("glass 7 3;", 1, 4, 1);
        duelIs("glass 7 0;glass 7 0;", 1, 7, 1);
        duelIs("glass 7 7;".repeat(4), 1, 7, 0);
        duelIs("glass 1 1;glass 1 1;glass 1 1;glass 7 0;", 1, 7, 15);
    }

    private void duelCall() {
        due.by("Promise 19", "DUEL of n: the minute, or (first) what first (NONE: n is 0).");
        duelIs(ONE.repeat(4), 0, 0, -1);
        duelIs(ONE.repeat(4), 1, 1, 1);
        duelIs("", 0, 0, -1);
        SandGlasses x = due.with(FOUR_SEVEN);
        due.row("3", new int[] {x.duel(0, 3, false), x.duel(0, 3, true)}, 10, 3);
        due.due("4 is in", x.duel(0, 4, false) >= 10, true);
        due.by("Promise 19", "-9: another n, or there is none such.");
        for (boolean first : new boolean[] {false, true}) {
            for (int n : new int[] {-1, 5, MIN, MAX}) {
                due.due("n " + n, x.duel(0, n, first), -9);
            }
            for (int shelf : new int[] {1, 2, -1, MIN, MAX}) {
                due.due("shelf " + shelf, x.duel(shelf, 0, first), -9);
                due.due("shelf " + shelf, x.duel(shelf, 4, first), -9);
            }
        }
    }

    private void chanceIs(String shelf, int p, int m, int over, int under) {
        SandGlasses x = due.with(shelf);
        due.due("chance of " + p + " " + m + " with " + shelf, x.chance(0, p, m, false), over);
        due.due("chance under of " + p + " " + m + " with " + shelf, x.chance(0, p, m, true), under);
    }

    private void chance() {
        due.by("Terms 3", "CHANCE of p, 0 .. 10, m, 0 .. 7: each GLASS is TURNED at minute 0 by p of ten, by itself: "
            + "how likely the next EVENT is at minute m (0: there is none), a fraction in least terms.");
        for (int p = 0; p <= 10; p++) {
            int common = p == 0 || p == 10 ? 10 : p == 5 ? 5 : p % 2 == 0 ? 2 : 1;
            chanceIs("glass 7 0;", p, 7, p / common, 10 / common);
            chanceIs("glass 7 0;", p, 0, (10 - p) / common, 10 / common);
        }
        for (int m = 1; m <= 7; m++) {
            chanceIs("glass " + m + " 0;", 10, m, 1, 1);
            chanceIs("glass " + m + " " + m + ";", 0, m, 1, 1);
            chanceIs("glass " + m + " " + m + ";", 10, 0, 1, 1);
            chanceIs("glass 7 7;", 0, m, m == 7 ? 1 : 0, 1);
        }
        chanceIs("glass 1 0;glass 2 0;glass 3 0;glass 4 0;", 1, 4, 729, 10000);
        chanceIs("glass 1 0;glass 2 0;glass 3 0;glass 4 0;", 1, 0, 6561, 10000);
        chanceIs("glass 1 0;glass 2 0;glass 3 0;glass 4 0;", 9, 1, 9, 10);
        chanceIs("", 0, 0, 1, 1);
        chanceIs("", 10, 7, 0, 1);
    }

    private void chanceCall() {
        due.by("Promise 20", "CHANCE of p, m, N, or (under) D.");
        chanceIs(FOUR_SEVEN, 3, 7, 21, 100);
        chanceIs(FOUR_SEVEN, 3, 4, 3, 10);
        chanceIs(FOUR_SEVEN, 3, 5, 0, 1);
        due.by("Promise 20", "NONE: other numbers, or there is none such.");
        SandGlasses x = due.with(FOUR_SEVEN);
        for (boolean under : new boolean[] {false, true}) {
            for (int p : new int[] {-1, 11, MIN, MAX}) {
                due.due("p " + p, x.chance(0, p, 0, under), -1);
            }
            for (int m : new int[] {-1, 8, MIN, MAX}) {
                due.due("m " + m, x.chance(0, 0, m, under), -1);
            }
            for (int shelf : new int[] {1, 2, -1, MIN, MAX}) {
                due.due("shelf " + shelf, x.chance(shelf, 0, 0, under), -1);
            }
        }
    }
}
