/** Terms 5 and promises 12, 24 to 28 at their edges: what is counted of a shelf as told. */
final class TimesBoundaries {
    private static final int MIN = Integer.MIN_VALUE;
    private static final int MAX = Integer.MAX_VALUE;
    private static final int ALL = 0x7ffffffe;
    private static final String ONE = "glass 1 0;";
    private static final String FOUR_SEVEN = "glass 4 0;glass 7 0;price 1 3;";

    private final Sentences due;

    TimesBoundaries(Sentences due) {
        this.due = due;
    }

    void run() {
        firstAndLast();
        dearest();
        alone();
        crowd();
        still();
        apart();
        couples();
        ofTheShelf();
        same();
        early();
        timesCall();
    }

    private int times(String shelf, int what) {
        return due.with(shelf).times(0, what);
    }

    private void firstAndLast() {
        due.by("Terms 5", "(Of a SHELF as told.)");
        SandGlasses x = due.with("glass 3 1;", "lay 0;leak 0;wait 9;");
        x.after(0, 0, 0);
        due.row("a day changes nothing", new int[] {x.times(0, 2), x.times(0, 10), x.times(0, 12)}, 1, 1, 1);
        due.by("Terms 5", "FIRST, LAST of T: the least, the greatest T of which there is TELL (none: none);");
        due.row("none", new int[] {times("", 2), times("", 3)}, -1, -1);
        due.row("1 and 30", new int[] {times(ONE, 2), times(ONE, 3)}, 1, 30);
        due.row("7 and 28", new int[] {times("glass 7 0;", 2), times("glass 7 0;", 3)}, 7, 28);
        due.row("1 and 29", new int[] {times("glass 2 1;", 2), times("glass 2 1;", 3)}, 1, 29);
        due.by("Terms 5", "GAP: the least T, 1 .. 30, of which there is none (none: none);");
        due.due("none", times(ONE, 4), -1);
        due.due("1", times("", 4), 1);
        due.due("1", times("glass 7 0;", 4), 1);
        due.due("2", times("glass 2 1;", 4), 2);
        due.due("3", times("glass 3 1;", 4), 3);
        due.by("Terms 5", "LONGEST: the longest row of T, one behind the other, of which there is TELL.");
        due.due("none", times("", 5), 0);
        due.due("all", times(ONE, 5), 30);
        due.due("one", times("glass 2 0;", 5), 1);
        due.due("two", times("glass 3 1;", 5), 2);
        due.due("7 to 30", times(FOUR_SEVEN, 5), 24);
    }

    private void dearest() {
        due.by("Terms 5", "DEAREST: the T of which TELL takes most TURNS, of several the least (none: none); how many.");
        due.row("none", new int[] {times("", 6), times("", 7)}, -1, 0);
        due.row("30 by 30", new int[] {times(ONE, 6), times(ONE, 7)}, 30, 30);
        due.row("28 by 4", new int[] {times("glass 7 0;", 6), times("glass 7 0;", 7)}, 28, 4);
        due.row("of 26 and 30, by 4, the least", new int[] {times("glass 7 2;", 6), times("glass 7 2;", 7)}, 26, 4);
        due.row("13 by 6", new int[] {times(FOUR_SEVEN, 6), times(FOUR_SEVEN, 7)}, 13, 6);
        due.by("Terms 5", "FREE: T (bits) of which there is TELL by no TURN.");
        due.due("none", times("", 8), 0);
        due.due("nothing on top", times("glass 7 0;", 8), 0);
        due.due("1 and 7", times("glass 1 1;glass 7 7;glass 7 0;glass 7 1;", 8), Sentences.bits(1, 7));
    }

    private void alone() {
        due.by("Terms 5", "ALONE of a GLASS: T (bits) of which there is TELL by it alone.");
        SandGlasses x = due.with("glass 1 0;glass 5 0;glass 7 2;glass 7 7;");
        due.row("each", new int[] {x.times(0, 20), x.times(0, 21), x.times(0, 22), x.times(0, 23)}, ALL,
            Sentences.bits(5, 10, 15, 20, 25, 30), Sentences.bits(2, 9, 16, 23, 30, 5, 12, 19, 26), Sentences.bits(7, 14, 21, 28));
        due.row("no fifth", new int[] {x.times(0, 24), x.times(0, 19)}, -2, -2);
        due.row("one glass", new int[] {times(ONE, 20), times(ONE, 21)}, ALL, -2);
    }

    private void crowd() {
        due.by("Terms 5", "CROWD of t, 0 .. 30: how many unlike rows of TOPS there can be at minute t as an EVENT, "
            + "ahead of its TURNS (0: it can be none).");
        SandGlasses x = due.with(FOUR_SEVEN);
        due.row("4 and 7", new int[] {x.crowd(0, 0), x.crowd(0, 1), x.crowd(0, 3), x.crowd(0, 4), x.crowd(0, 7), x.crowd(0, 8)},
            1, 0, 0, 2, 2, 3);
        due.due("30", x.crowd(0, 30), 10);
        x = due.with("glass 5 5;");
        due.row("5", new int[] {x.crowd(0, 0), x.crowd(0, 5), x.crowd(0, 29), x.crowd(0, 30)}, 1, 1, 0, 1);
        due.by("Promise 26", "CROWD of t.");
        x = due.with(ONE);
        due.row("0 and 30", new int[] {x.crowd(0, 0), x.crowd(0, 30)}, 1, 1);
        due.row("no glasses", new int[] {due.with("").crowd(0, 0), due.with("").crowd(0, 1)}, 1, 0);
        due.by("Promise 26", "NONE: another t, or there is none such.");
        for (int t : new int[] {-1, 31, MIN, MAX}) {
            due.due("t " + t, x.crowd(0, t), -1);
        }
        for (int shelf : new int[] {1, 2, -1, MIN, MAX}) {
            due.due("shelf " + shelf, x.crowd(shelf, 0), -1);
        }
    }

    private void still() {
        due.by("Terms 5", "STILL: the most minutes that can lie between an EVENT, up to minute 30, and the next one "
            + "(0: there can be none).");
        due.due("none", times("", 14), 0);
        due.due("1", times(ONE, 14), 1);
        due.due("7", times("glass 7 7;", 14), 7);
        due.due("from 0 or later", times("glass 7 3;", 14), 7);
        due.due("one of two", times("glass 1 0;glass 6 0;", 14), 6);
        due.due("with a lesser one that runs first", times("glass 5 5;glass 4 4;", 14), 5);
    }

    private void apart() {
        due.by("Terms 5", "APART of two SHELVES (or one): T (bits) of which there is TELL by the first, not by the second one.");
        SandGlasses x = due.with("glass 2 0;");
        due.due("second", Check.tell(x, 0, -1, "glass 3 0;"), 1);
        due.due("2, not 3", x.apart(0, 1), Sentences.bits(2, 4, 8, 10, 14, 16, 20, 22, 26, 28));
        due.due("3, not 2", x.apart(1, 0), Sentences.bits(3, 9, 15, 21, 27));
        due.row("one", new int[] {x.apart(0, 0), x.apart(1, 1)}, 0, 0);
        due.by("Promise 12", "APART (bits).");
        due.due("in the place of the first", Check.tell(x, 0, 0, ONE), 0);
        due.due("in the place of the second", x.text(0, 1), 1);
        due.row("all and none", new int[] {x.apart(0, 1), x.apart(1, 0)}, ALL, 0);
        due.by("Promise 12", "NONE: there is none such (of either).");
        for (int none : new int[] {2, -1, MIN, MAX}) {
            due.due("first " + none, x.apart(none, 0), -1);
            due.due("second " + none, x.apart(0, none), -1);
            due.due("both " + none, x.apart(none, none), -1);
        }
        due.due("the second is not there", due.with(ONE).apart(0, 1), -1);
        due.due("a new object", new SandGlasses().apart(0, 0), -1);
    }

    private void couples() {
        due.by("Terms 5", "COUPLES of T: how many couples of GLASSES there are by which alone there is TELL of T.");
        SandGlasses x = due.with("glass 7 0;glass 7 0;glass 4 0;glass 4 0;");
        due.row("4, 7, 11, 3", new int[] {x.couples(0, 4), x.couples(0, 7), x.couples(0, 11), x.couples(0, 3)}, 5, 5, 4, 0);
        due.row("by glasses", new int[] {due.with("").couples(0, 1), due.with(ONE).couples(0, 1),
            due.with(ONE.repeat(2)).couples(0, 1), due.with(ONE.repeat(3)).couples(0, 1), due.with(ONE.repeat(4)).couples(0, 1)},
            0, 0, 1, 3, 6);
        due.due("three are none", due.with("glass 7 2;glass 7 2;glass 7 2;").couples(0, 7), 0);
        due.by("Promise 25", "COUPLES of T.");
        x = due.with(ONE.repeat(4));
        due.row("1 and 30", new int[] {x.couples(0, 1), x.couples(0, 30)}, 6, 6);
        due.by("Promise 25", "NONE: another T, or there is none such.");
        for (int t : new int[] {0, 31, -1, MIN, MAX}) {
            due.due("T " + t, x.couples(0, t), -1);
        }
        for (int shelf : new int[] {1, 2, -1, MIN, MAX}) {
            due.due("shelf " + shelf, x.couples(shelf, 1), -1);
        }
    }

    private void ofTheShelf() {
        due.by("Terms 5", "COMMON: the greatest number by which all SIZES can be divided (0 without GLASSES);");
        due.row("common", new int[] {times("", 9), times(ONE, 9), times("glass 7 3;", 9), times("glass 6 0;glass 4 0;", 9),
            times("glass 6 0;glass 4 0;glass 7 0;", 9), times("glass 6 6;glass 3 0;glass 6 1;glass 3 3;", 9)}, 0, 1, 7, 2, 1, 3);
        due.by("Terms 5", "SAND: of all TOPS, together;");
        due.row("sand", new int[] {times("", 10), times("glass 7 0;", 10), times("glass 7 7;".repeat(4), 10)}, 0, 0, 28);
        due.by("Terms 5", "EVEN: GLASSES (bits) the TOP of which is as much as the BOTTOM.");
        due.row("even", new int[] {times("", 11), times("glass 4 1;glass 4 2;glass 4 3;glass 2 1;", 11),
            times("glass 7 3;glass 7 4;glass 1 0;glass 1 1;", 11), times("glass 6 3;".repeat(4), 11)}, 0, 10, 0, 15);
        due.by("Terms 5", "DRY: the minute at which nothing runs any more, nothing being TURNED.");
        due.row("dry", new int[] {times("", 12), times("glass 7 0;", 12), times("glass 7 7;glass 1 1;", 12),
            times("glass 7 1;glass 2 2;", 12)}, 0, 0, 7, 2);
        due.by("Terms 5", "LIKE: couples of GLASSES of one SIZE and TOP.");
        due.row("like", new int[] {times("", 13), times(ONE, 13), times(ONE.repeat(2), 13), times(ONE.repeat(3), 13),
            times(ONE.repeat(4), 13), times("glass 3 1;glass 3 2;glass 4 1;glass 3 1;", 13),
            times("glass 3 1;glass 3 2;glass 4 1;", 13)}, 0, 0, 1, 3, 6, 1, 0);
    }

    private void same() {
        due.by("Terms 5", "SAME of T: whether there is TELL of T by all GLASSES TURNED at each EVENT ahead of T (1, else 0).");
        SandGlasses x = due.with("glass 4 0;glass 7 0;");
        for (int t = 1; t <= 30; t++) {
            due.due("T " + t, x.same(0, t), t % 4 == 0 ? 1 : 0);
        }
        x = due.with("glass 5 3;glass 6 0;");
        for (int t = 1; t <= 30; t++) {
            due.due("T " + t, x.same(0, t), t % 2 == 0 ? 1 : 0);
        }
        due.row("7 with 2: 5, 12, 19, 26", new int[] {due.with("glass 7 2;").same(0, 2), due.with("glass 7 2;").same(0, 5),
            due.with("glass 7 2;").same(0, 26)}, 0, 1, 1);
        due.row("nothing runs", new int[] {due.with("glass 3 3;").same(0, 3), due.with("").same(0, 1)}, 0, 0);
        due.by("Promise 27", "SAME of T.");
        x = due.with(ONE);
        due.row("1 and 30", new int[] {x.same(0, 1), x.same(0, 30)}, 1, 1);
        due.by("Promise 27", "NONE: another T, or there is none such.");
        for (int t : new int[] {0, 31, -1, MIN, MAX}) {
            due.due("T " + t, x.same(0, t), -1);
        }
        for (int shelf : new int[] {1, 2, -1, MIN, MAX}) {
            due.due("shelf " + shelf, x.same(shelf, 1), -1);
        }
    }

    private void early() {
        due.by("Terms 5", "EARLY of k, 0 .. 20: the least minute at which there can have been k EVENTS behind minute 0 "
            + "(none: there can't be so many);");
        SandGlasses x = due.with(FOUR_SEVEN);
        due.row("4 and 7", new int[] {x.early(0, 0, false), x.early(0, 1, false), x.early(0, 2, false), x.early(0, 3, false)}, 0, 4, 7, 8);
        x = due.with(ONE);
        due.row("0, 1, 20", new int[] {x.early(0, 0, false), x.early(0, 1, false), x.early(0, 20, false)}, 0, 1, 20);
        due.row("none without glasses", new int[] {due.with("").early(0, 0, false), due.with("").early(0, 1, false)}, 0, -1);
        due.by("Terms 5", "LATE: the greatest at which the k-th of them can be.");
        x = due.with(FOUR_SEVEN);
        due.row("4 and 7", new int[] {x.early(0, 0, true), x.early(0, 1, true), x.early(0, 2, true), x.early(0, 4, true)}, 0, 7, 14, 28);
        due.row("none without glasses", new int[] {due.with("").early(0, 0, true), due.with("").early(0, 1, true)}, 0, -1);
        due.by("Promise 28", "EARLY, or (late) LATE of k, minutes up to 30.");
        x = due.with("glass 5 0;");
        due.row("30 is in", new int[] {x.early(0, 6, false), x.early(0, 6, true)}, 30, 30);
        x = due.with("glass 2 1;");
        due.row("29", new int[] {x.early(0, 15, false), x.early(0, 15, true)}, 29, 29);
        x = due.with("glass 7 2;");
        due.row("of 30 and 33 the one up to 30", new int[] {x.early(0, 5, false), x.early(0, 5, true)}, 30, 30);
        due.row("of 23 and 26", new int[] {x.early(0, 4, false), x.early(0, 4, true)}, 23, 26);
        due.by("Promise 28", "NONE: there can't be so many up to then, another k, or there is none such.");
        for (boolean late : new boolean[] {false, true}) {
            due.due("35", due.with("glass 5 0;").early(0, 7, late), -1);
            due.due("31", due.with("glass 2 1;").early(0, 16, late), -1);
            for (int k : new int[] {-1, 21, 30, MIN, MAX}) {
                due.due("k " + k, due.with(ONE).early(0, k, late), -1);
            }
            for (int shelf : new int[] {1, 2, -1, MIN, MAX}) {
                due.due("shelf " + shelf, x.early(shelf, 0, late), -1);
            }
        }
    }

    private void timesCall() {
        due.by("Promise 24", "What 0: TIMES (bits), 1: REACHED, 2: FIRST (NONE), 3: LAST (NONE), 4: GAP (NONE), 5: LONGEST, "
            + "6: DEAREST (NONE), 7: how many (0: none), 8: FREE (bits), 9: COMMON, 10: SAND, 11: EVEN (bits), 12: DRY, 13: LIKE, "
            + "14: STILL, 20 + k: ALONE of a GLASS (bits).");
        SandGlasses x = due.with("glass 6 3;glass 6 3;");
        int[] got = new int[22];
        for (int what = 0; what < got.length; what++) {
            got[what] = x.times(0, what);
        }
        int odd = Sentences.bits(3, 9, 15, 21, 27);
        due.row("two of 6, half on top", got, odd, 2, 3, 27, 1, 1, 27, 4, 8, 6, 6, 3, 3, 1, 6, -2, -2, -2, -2, -2, odd, odd);
        x = due.with("");
        for (int what = 0; what < got.length; what++) {
            got[what] = x.times(0, what);
        }
        due.row("no glasses", got, 0, 1, -1, -1, 1, 0, -1, 0, 0, 0, 0, 0, 0, 0, 0, -2, -2, -2, -2, -2, -2, -2);
        due.by("Promise 24", "-2: there is none such (of either), or for another what.");
        x = due.with(ONE.repeat(4));
        for (int what : new int[] {-1, 15, 16, 19, 24, 25, 30, MIN, MAX}) {
            due.due("what " + what, x.times(0, what), -2);
        }
        for (int shelf : new int[] {1, 2, -1, MIN, MAX}) {
            for (int what : new int[] {0, 2, 9, 14, 20}) {
                due.due("shelf " + shelf, x.times(shelf, what), -2);
            }
        }
        due.row("the last that are in", new int[] {x.times(0, 14), x.times(0, 23)}, 1, ALL);
    }
}
