import java.util.Arrays;

/** Terms 3 and promises 10, 11, 13, 14, 16 at their edges: times that can be told by turning. */
final class TellBoundaries {
    private static final int MIN = Integer.MIN_VALUE;
    private static final int MAX = Integer.MAX_VALUE;
    private static final int ALL = 0x7ffffffe;
    private static final String ONE = "glass 1 0;";
    private static final String FOUR_SEVEN = "glass 4 0;glass 7 0;price 1 3;";

    private final Sentences due;

    TellBoundaries(Sentences due) {
        this.due = due;
    }

    void run() {
        events();
        fewestTurns();
        rows();
        used();
        prices();
        haste();
        times();
        tellCall();
        tellRefused();
        purseCall();
        span();
        need();
        reached();
        done();
        planCall();
    }

    private void events() {
        due.by("Terms 3", "(Of a SHELF as told, nothing laid.)");
        SandGlasses x = due.with("glass 5 5;", "lay 0;wait 1;");
        x.stop(0, 0);
        due.row("a day changes nothing", new int[] {x.tell(0, 5, 0), x.tell(0, 10, 0), x.tell(0, 4, 0)}, 0, 1, -1);
        due.by("Terms 3", "EVENTS: minute 0, and each later one at which any GLASS RUNS OUT.");
        x = due.with("glass 6 2;");
        for (int t = 1; t <= 30; t++) {
            boolean event = t % 6 == 2 || t % 6 == 4;
            due.due("minute " + t, x.tell(0, t, 0) != -1, event);
        }
        due.due("at minute 0 it may be turned", x.tell(0, 4, 10), 1);
        due.due("a full glass, left alone", due.with("glass 7 7;").tell(0, 7, 0), 0);
        due.due("with nothing on top nothing runs out", due.with("glass 7 0;").times(0, 8), 0);
        due.by("Terms 3", "At each EVENT one TURNS whichever GLASSES one likes, or none, all at once, before the next minute goes by.");
        x = due.with("glass 2 0;glass 3 0;");
        due.row("4: glass 0 at 0 and at 2", new int[] {x.tell(0, 4, 0), x.tell(0, 4, 10), x.tell(0, 4, 11), x.tell(0, 4, 51)},
            2, 1, 1, 2);
        due.due("1 is between no events from 0 on", x.tell(0, 1, 0), -1);
        due.row("5: glass 0, then 1", new int[] {x.tell(0, 5, 0), x.tell(0, 5, 10), x.tell(0, 5, 11)}, 2, 1, 2);
        x = due.with("glass 7 7;glass 3 3;");
        due.row("7: none at all", new int[] {x.tell(0, 7, 0), x.tell(0, 7, 10), x.tell(0, 7, 11), x.tell(0, 7, 12)}, 0, 0, 0, -1);
    }

    private void fewestTurns() {
        due.by("Terms 3", "TELL of T, 1 .. 30: that minute T is an EVENT; "
            + "the fewest TURNS (each GLASS that is TURNED, each time) by which it is;");
        SandGlasses x = due.with(ONE);
        for (int t = 1; t <= 30; t++) {
            due.due("turns of " + t, x.tell(0, t, 0), t);
        }
        due.row("0 and 31 are out", new int[] {x.tell(0, 0, 0), x.tell(0, 31, 0)}, -1, -1);
        x = due.with("glass 7 7;");
        due.row("7, 14, 21, 28", new int[] {x.tell(0, 7, 0), x.tell(0, 14, 0), x.tell(0, 21, 0), x.tell(0, 28, 0)}, 0, 1, 2, 3);
        x = due.with(FOUR_SEVEN);
        due.row("4, 7, 9, 11", new int[] {x.tell(0, 4, 0), x.tell(0, 7, 0), x.tell(0, 9, 0), x.tell(0, 11, 0)}, 1, 1, 5, 2);
        due.due("1: none", x.tell(0, 1, 0), -1);
    }

    private void rows() {
        due.by("Terms 3", "ROW: of these the first by numbers: the sets of GLASSES (bits) TURNED at the EVENTS ahead of T, "
            + "one behind the other: the k-th, and at which minute.");
        SandGlasses x = due.with("glass 3 0;glass 3 0;");
        due.row("of glasses alike the least", new int[] {x.tell(0, 6, 10), x.tell(0, 6, 11), x.tell(0, 6, 12)}, 1, 1, -1);
        x = due.with("glass 3 1;glass 3 3;");
        due.row("4: 0, 1, 0", new int[] {x.tell(0, 4, 10), x.tell(0, 4, 11), x.tell(0, 4, 12), x.tell(0, 4, 13)}, 0, 1, 0, -1);
        due.row("at 0, 1, 3", new int[] {x.tell(0, 4, 50), x.tell(0, 4, 51), x.tell(0, 4, 52), x.tell(0, 4, 53)}, 0, 1, 3, -1);
        x = due.with(ONE);
        for (int k = 0; k <= 29; k++) {
            due.due("set " + k + " of 30", x.tell(0, 30, 10 + k), 1);
            due.due("minute " + k + " of 30", x.tell(0, 30, 50 + k), k);
            due.due("set " + k + " of 1", x.tell(0, 1, 10 + k), k == 0 ? 1 : -1);
            due.due("minute " + k + " of 1", x.tell(0, 1, 50 + k), k == 0 ? 0 : -1);
            due.due("set " + k + " of 29", x.tell(0, 29, 10 + k), k < 29 ? 1 : -1);
        }
        x = due.with("glass 7 7;".repeat(3) + "glass 3 0;");
        due.row("all bits", new int[] {x.tell(0, 3, 10), x.tell(0, 3, 50)}, 8, 0);
    }

    private void used() {
        due.by("Terms 3", "USED of T, a GLASS: how often it is TURNED in ROW.");
        SandGlasses x = due.with(FOUR_SEVEN);
        due.row("9: 3, 1, 2, 2", new int[] {x.tell(0, 9, 3), x.tell(0, 9, 4)}, 2, 3);
        due.due("never", x.tell(0, 4, 4), 0);
        due.due("thirty times", due.with(ONE).tell(0, 30, 3), 30);
        x = due.with("glass 2 2;glass 3 3;glass 5 5;glass 1 0;");
        due.row("of four", new int[] {x.tell(0, 1, 3), x.tell(0, 1, 4), x.tell(0, 1, 5), x.tell(0, 1, 6)}, 0, 0, 0, 1);
    }

    private void prices() {
        due.by("Terms 3", "CHEAP of T: the least PRICE of all TURNS together by which there is TELL of it.");
        due.due("0 each", due.with(ONE + "price 0 0;").tell(0, 30, 2), 0);
        due.due("9 each", due.with(ONE + "price 0 9;").tell(0, 30, 2), 270);
        due.due("1 each at first", due.with(ONE).tell(0, 30, 2), 30);
        SandGlasses x = due.with("glass 1 0;glass 5 0;price 1 9;");
        due.row("five of 1, or one of 9", new int[] {x.tell(0, 5, 0), x.tell(0, 5, 2), x.tell(0, 9, 2), x.tell(0, 10, 2)},
            1, 5, 9, 10);
        due.due("none by no turn", due.with("glass 7 7;price 0 9;").tell(0, 7, 2), 0);
        x = due.with("glass 2 0;glass 3 0;price 0 0;price 1 9;");
        due.row("2, 3, 5", new int[] {x.tell(0, 2, 2), x.tell(0, 3, 2), x.tell(0, 5, 2)}, 0, 9, 9);
        due.due("other prices in its place", Check.tell(x, 0, 0, "glass 2 0;glass 3 0;price 0 1;price 1 0;"), 0);
        due.row("2, 3, 5", new int[] {x.tell(0, 2, 2), x.tell(0, 3, 2), x.tell(0, 5, 2)}, 1, 0, 1);
        due.by("Terms 3", "PURSE of m, 0 .. 99: of which T there is TELL by TURNS of PRICE m or less together (bits).");
        x = due.with(ONE + "price 0 9;");
        due.row("none by 0 or 8, one by 9 and 17, two by 18", new int[] {x.purse(0, 0), x.purse(0, 8), x.purse(0, 9),
            x.purse(0, 17), x.purse(0, 18)}, 0, 0, 2, 2, 6);
        due.row("ten by 98, eleven by 99", new int[] {x.purse(0, 98), x.purse(0, 99)}, (1 << 11) - 2, (1 << 12) - 2);
        due.due("all by 0", due.with(ONE + "price 0 0;").purse(0, 0), ALL);
        due.row("29 of them by 29, all by 30", new int[] {due.with(ONE).purse(0, 29), due.with(ONE).purse(0, 30)},
            ALL ^ 1 << 30, ALL);
        due.due("by no turn", due.with("glass 7 7;price 0 9;").purse(0, 0), 1 << 7);
    }

    private void haste() {
        due.by("Terms 3", "HASTE of T: the fewest EVENTS ahead of T (minute 0 is one) by which there is TELL of it.");
        due.due("minute 0 alone", due.with("glass 7 7;").tell(0, 7, 1), 1);
        due.due("thirty", due.with(ONE).tell(0, 30, 1), 30);
        SandGlasses x = due.with("glass 1 1;glass 5 5;");
        due.row("5 in haste: glass 0 is turned away at 0", new int[] {x.tell(0, 5, 0), x.tell(0, 5, 1)}, 0, 1);
        x = due.with("glass 1 1;glass 5 5;price 0 9;price 1 9;");
        due.row("by no turn there are two", new int[] {x.tell(0, 5, 10), x.tell(0, 5, 11), x.tell(0, 5, 12), x.tell(0, 5, 2)},
            0, 0, -1, 0);
    }

    private void times() {
        due.by("Terms 3", "TIMES: of which T there is TELL (bits 1 .. 30).");
        due.due("all", due.with(ONE).times(0, 0), ALL);
        due.due("none", due.with("").times(0, 0), 0);
        due.due("5 to 30", due.with("glass 5 0;").times(0, 0), Sentences.bits(5, 10, 15, 20, 25, 30));
        due.due("1 to 29", due.with("glass 2 1;").times(0, 0), 0x2aaaaaaa);
        due.due("7 to 28", due.with("glass 7 7;").times(0, 0), Sentences.bits(7, 14, 21, 28));
    }

    private void tellCall() {
        due.by("Promise 10", "TELL of T, what 0: how many TURNS, 1: HASTE, 2: CHEAP, 3 + k: USED of a GLASS, k 0 .. 3, "
            + "10 + k, 50 + k: the k-th set of ROW, its minute, k 0 .. 29.");
        SandGlasses x = due.with(FOUR_SEVEN);
        int[] got = new int[60];
        for (int what = 0; what < got.length; what++) {
            got[what] = x.tell(0, 9, what);
        }
        int[] want = new int[60];
        Arrays.fill(want, -1);
        System.arraycopy(new int[] {5, 4, 11, 2, 3}, 0, want, 0, 5);
        System.arraycopy(new int[] {3, 1, 2, 2}, 0, want, 10, 4);
        System.arraycopy(new int[] {0, 4, 7, 8}, 0, want, 50, 4);
        due.row("9 by 4 and 7", got, want);
        x = due.with(ONE);
        due.row("the 29th and the last", new int[] {x.tell(0, 30, 38), x.tell(0, 30, 39), x.tell(0, 30, 78), x.tell(0, 30, 79)},
            1, 1, 28, 29);
    }

    private void tellRefused() {
        due.by("Promise 10", "NONE: there is none, not so many, another T, there is none such, or for another what.");
        SandGlasses x = due.with("glass 4 0;glass 4 0;glass 4 0;glass 4 0;");
        for (int what : new int[] {0, 1, 2, 3, 6, 10, 50}) {
            due.due("none of 3, what " + what, x.tell(0, 3, what), -1);
            due.due("one of 4, what " + what, x.tell(0, 4, what) >= 0, true);
            for (int t : new int[] {0, 31, 32, -1, MIN, MAX}) {
                due.due("T " + t + ", what " + what, x.tell(0, t, what), -1);
            }
            for (int shelf : new int[] {1, 2, -1, MIN, MAX}) {
                due.due("shelf " + shelf + ", what " + what, x.tell(shelf, 4, what), -1);
            }
        }
        due.row("not so many", new int[] {x.tell(0, 8, 11), x.tell(0, 8, 12), x.tell(0, 8, 51), x.tell(0, 8, 52)}, 1, -1, 4, -1);
        for (int what : new int[] {-1, 7, 8, 9, 39, 40, 49, 79, 80, MIN, MAX}) {
            due.due("what " + what, x.tell(0, 8, what), -1);
        }
        x = due.with(ONE);
        for (int what : new int[] {-1, 4, 5, 6, 7, 9, 40, 49, 80, 89}) {
            due.due("what " + what + " of one glass", x.tell(0, 30, what), -1);
        }
    }

    private void purseCall() {
        due.by("Promise 11", "PURSE of m (bits).");
        SandGlasses x = due.with(FOUR_SEVEN);
        due.row("0 to 3", new int[] {x.purse(0, 0), x.purse(0, 1), x.purse(0, 2), x.purse(0, 3)},
            0, Sentences.bits(4), Sentences.bits(4, 8), Sentences.bits(4, 7, 8, 12));
        due.due("99", x.purse(0, 99), x.times(0, 0));
        due.by("Promise 11", "NONE: another m, or there is none such.");
        for (int m : new int[] {-1, 100, MIN, MAX}) {
            due.due("m " + m, x.purse(0, m), -1);
        }
        for (int shelf : new int[] {1, 2, -1, MIN, MAX}) {
            due.due("shelf " + shelf, x.purse(shelf, 0), -1);
        }
        due.due("no glasses", due.with("").purse(0, 99), 0);
    }

    private void span() {
        due.by("Terms 3", "SPAN of T, 1 .. 30: the least minute, up to 30, that is an EVENT, an EVENT having been T minutes "
            + "ahead of it, by whatever TURNS (at the last of them they need not be the same as for another one).");
        SandGlasses x = due.with(FOUR_SEVEN);
        due.row("1: from 7 to 8, 3: from 4 to 7, 4: from 0", new int[] {x.span(0, 1), x.span(0, 3), x.span(0, 4)}, 8, 7, 4);
        due.due("28 from 2 to 30 is in", due.with("glass 7 2;").span(0, 28), 30);
        due.due("28 from 3 to 31 is out", due.with("glass 7 3;").span(0, 28), -1);
        due.due("21 from 3 to 24", due.with("glass 7 3;").span(0, 21), 24);
        due.by("Promise 13", "SPAN of T.");
        x = due.with(ONE);
        due.row("1 and 30", new int[] {x.span(0, 1), x.span(0, 30)}, 1, 30);
        due.by("Promise 13", "NONE: none, another T, or there is none such.");
        for (int t : new int[] {0, 31, -1, MIN, MAX}) {
            due.due("T " + t, x.span(0, t), -1);
        }
        for (int shelf : new int[] {1, 2, -1, MIN, MAX}) {
            due.due("shelf " + shelf, x.span(shelf, 1), -1);
        }
        x = due.with("glass 4 0;");
        due.row("3 and 29: none", new int[] {x.span(0, 3), x.span(0, 28), x.span(0, 29)}, -1, 28, -1);
        due.due("no glasses", due.with("").span(0, 1), -1);
    }

    private void need() {
        due.by("Terms 3", "NEED of T: the fewest GLASSES by which alone there is TELL of T, the others being away: how many; "
            + "which (bits), of several the least.");
        SandGlasses x = due.with("glass 4 0;glass 2 0;glass 2 0;");
        due.row("2: one, glass 1", new int[] {x.need(0, 2, false), x.need(0, 2, true)}, 1, 2);
        due.row("4: one, glass 0", new int[] {x.need(0, 4, false), x.need(0, 4, true)}, 1, 1);
        x = due.with("glass 2 0;glass 3 0;glass 5 0;");
        due.row("5: one, not two of lesser bits", new int[] {x.need(0, 5, false), x.need(0, 5, true)}, 1, 4);
        x = due.with("glass 7 0;glass 7 0;glass 4 0;glass 4 0;");
        due.row("11: two, the least", new int[] {x.need(0, 11, false), x.need(0, 11, true)}, 2, 5);
        x = due.with("glass 7 2;glass 7 2;glass 7 2;");
        due.row("7: three", new int[] {x.need(0, 7, false), x.need(0, 7, true)}, 3, 7);
        x = due.with("glass 7 7;glass 7 2;glass 7 2;glass 7 2;");
        due.row("7: one of four", new int[] {x.need(0, 7, false), x.need(0, 7, true)}, 1, 1);
        x = due.with("glass 6 3;glass 7 0;glass 7 0;");
        due.row("8: three, unlike ones", new int[] {x.need(0, 8, false), x.need(0, 8, true)}, 3, 7);
        due.by("Promise 14", "NEED of T: how many, or (which) which (bits).");
        x = due.with("glass 7 7;glass 7 7;glass 7 7;glass 1 0;");
        due.row("1 and 30", new int[] {x.need(0, 1, false), x.need(0, 1, true), x.need(0, 30, false), x.need(0, 30, true)}, 1, 8, 1, 8);
        due.by("Promise 14", "NONE: by none, another T, or there is none such.");
        for (boolean which : new boolean[] {false, true}) {
            due.due("by none", due.with("glass 4 0;").need(0, 3, which), -1);
            due.due("no glasses", due.with("").need(0, 1, which), -1);
            for (int t : new int[] {0, 31, -1, MIN, MAX}) {
                due.due("T " + t, x.need(0, t, which), -1);
            }
            for (int shelf : new int[] {1, 2, -1, MIN, MAX}) {
                due.due("shelf " + shelf, x.need(shelf, 1, which), -1);
            }
        }
    }

    private void reached() {
        due.by("Terms 3", "REACHED: how many unlike rows of TOPS there are at EVENTS up to minute 30, ahead of TURNS, "
            + "by whatever TURNS, those at minute 0, too.");
        due.due("minute 0 and later ones alike", due.with("glass 7 0;").times(0, 1), 1);
        due.due("minute 0 unlike the later ones", due.with("glass 7 7;").times(0, 1), 2);
        due.due("no glasses: one row, without tops", due.with("").times(0, 1), 1);
        due.due("4 and 7", due.with(FOUR_SEVEN).times(0, 1), 10);
        // Counted by Model and by a search of its own, not on paper. No shelf comes to a new row behind minute 17; these are the ones that come to one so late.
        due.due("rows that come at 15", due.with("glass 6 6;glass 7 7;glass 7 7;glass 7 7;").times(0, 1), 979);
        due.due("rows that come at 17", due.with("glass 6 6;glass 6 6;glass 6 6;glass 7 4;").times(0, 1), 763);
    }

    private int plan(String shelf, String order, int k) {
        return due.with(shelf, null, null, order).plan(0, 0, k);
    }

    private void done() {
        due.by("Terms 3", "DONE by an ORDER: its SPANS are told one behind the other: each begins at an EVENT (minute 0, too), "
            + "the next one at the EVENT at which the one ahead ends, or at a later one, and ends at an EVENT so many minutes "
            + "behind its beginning:");
        due.due("from 0", plan("glass 7 1;", "span 6;", 1), 6);
        due.due("from 1", plan("glass 7 1;", "span 7;", 1), 8);
        due.due("one behind the other", plan("glass 7 1;", "span 1;span 7;", 2), 8);
        due.due("4, then 1 from 7 to 8", plan(FOUR_SEVEN, "span 4;span 1;", 2), 8);
        due.due("4, then 2 from 7 to 9", plan(FOUR_SEVEN, "span 4;span 2;", 2), 9);
        due.due("3 from 4 to 7, then 4", plan(FOUR_SEVEN, "span 3;span 4;", 2), 11);
        due.due("no event so many minutes behind", plan("glass 7 1;", "span 1;span 6;", 2), -1);
        due.by("Terms 3", "the least minute at which the first k SPANS, k 0 .. all, can be done (up to 90; else none).");
        due.due("none of none", plan(ONE, "", 0), 0);
        due.due("none of six", plan("", "span 1;".repeat(6), 0), 0);
        due.due("all six", plan(ONE, "span 15;".repeat(6), 6), 90);
        due.due("five", plan(ONE, "span 15;".repeat(6), 5), 75);
        due.due("90 is in", plan(ONE, "span 30;span 30;span 29;span 1;", 4), 90);
        due.due("91 is out", plan(ONE, "span 30;span 30;span 29;span 2;", 4), -1);
        due.due("91 by sevens is out", plan("glass 7 0;", "span 28;span 28;span 28;span 7;", 4), -1);
        due.due("84", plan("glass 7 0;", "span 28;span 28;span 28;span 7;", 3), 84);
    }

    private void planCall() {
        due.by("Promise 16", "DONE, the first k.");
        SandGlasses x = due.with(ONE, null, null, "span 1;span 2;span 3;span 4;span 5;span 6;");
        int[] got = new int[7];
        for (int k = 0; k <= 6; k++) {
            got[k] = x.plan(0, 0, k);
        }
        due.row("spans together", got, 0, 1, 3, 6, 10, 15, 21);
        due.by("Promise 16", "NONE: none, there are not so many, or there is none such (of either).");
        due.due("none", plan("glass 4 0;", "span 3;", 1), -1);
        due.due("no glasses", plan("", "span 1;", 1), -1);
        for (int k : new int[] {7, 8, -1, MIN, MAX}) {
            due.due("k " + k, x.plan(0, 0, k), -1);
        }
        due.due("not so many of none", plan(ONE, "", 1), -1);
        for (int none : new int[] {1, 2, -1, MIN, MAX}) {
            due.due("shelf " + none, x.plan(none, 0, 0), -1);
            due.due("order " + none, x.plan(0, none, 0), -1);
        }
        due.due("a new object", new SandGlasses().plan(0, 0, 0), -1);
    }
}
