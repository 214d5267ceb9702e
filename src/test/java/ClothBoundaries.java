/** Terms 4, FULL and NONE in terms 5, promise 22 at their edges: what was on top under the cloth. */
final class ClothBoundaries {
    private static final int MIN = Integer.MIN_VALUE;
    private static final int MAX = Integer.MAX_VALUE;

    private final Sentences due;

    ClothBoundaries(Sentences due) {
        this.due = due;
    }

    void run() {
        tops();
        stops();
        facts();
        numbers();
        sure();
        ask();
        fullAndNone();
        answers();
        refused();
    }

    private int fits(String shelf, String day, String log, int what) {
        return due.with(shelf, day, log).fits(0, 0, 0, what);
    }

    private void tops() {
        due.by("Terms 4", "By a DAY and a LOG of a SHELF: TOPS of all GLASSES, 0 .. SIZE each, FIT, if, these being told,");
        for (int size = 1; size <= 7; size++) {
            String shelf = "glass " + size + " 1;";
            due.due("all of " + size, fits(shelf, "", "", 0), size + 1);
            due.due("the least", fits(shelf, "", "", 10), 10);
            due.due("the greatest", fits(shelf, "", "", 10 + size), 10 + size);
            due.due("not above it", fits(shelf, "", "", 11 + size), -2);
        }
        due.due("all rows of four", fits("glass 7 0;".repeat(4), "", "", 0), 4096);
        due.due("their last", fits("glass 7 0;".repeat(4), "", "", 10 + 4095), 17777);
        due.due("no more", fits("glass 7 0;".repeat(4), "", "", 10 + 4096), -2);
        due.due("not the tops that the shelf has", fits("glass 7 0;", "", "ran 0 7;", 10), 17);
        due.due("one row without glasses", fits("", "", "", 0), 1);
        due.due("its number", fits("", "", "", 10), 1);
    }

    private void stops() {
        due.by("Terms 4", "by the DAY up to its STOP then, and minutes alone behind it, up to minute 99, all FACTS are so");
        due.due("a leak that stops the day of full ones", fits("glass 3 0;", "leak 0;wait 1;turn 0;", "ran 0 3;", 10), 10);
        due.due("no sand on top: turned at 1", fits("glass 3 0;", "leak 0;wait 1;turn 0;", "ran 0 3;", 11), 11);
        due.due("full: as it is, no day", fits("glass 3 0;", "leak 0;wait 1;turn 0;", "ran 0 3;", 12), 13);
        due.due("three in all", fits("glass 3 0;", "leak 0;wait 1;turn 0;", "ran 0 3;", 0), 3);
        due.due("a leak that a minute ahead lets be", fits("glass 3 0;", "wait 1;leak 0;turn 0;", "ran 0 3;", 0), 2);
        due.due("a leak of what a turn brought down", fits("glass 3 0;", "wait 1;turn 0;leak 0;turn 0;", "ran 0 3;", 0), 0);
        due.due("a stop where it brought nothing down", fits("glass 3 0;", "wait 1;turn 0;leak 0;turn 0;", "ran 0 4;", 0), 2);
        due.due("40 deeds, or none, by the top", fits("glass 2 0;", "leak 0;" + "turn 0;".repeat(39), "ran 0 2;", 10), 12);
        due.due("39 deeds, or none, by the top", fits("glass 2 0;", "leak 0;" + "turn 0;".repeat(38), "ran 0 2;", 10), 12);
        due.due("40 deeds of the last glass", fits("glass 7 0;".repeat(4), "turn 3;".repeat(40), "ran 3 7;", 0), 512);
        due.due("the first deed of one that is not there", fits("glass 3 0;", "turn 1;turn 0;", "ran 0 3;", 10), 13);
        due.due("a glass that is not there stops it", fits("glass 3 0;", "wait 1;turn 1;turn 0;", "ran 0 3;", 10), 13);
        due.due("a day beyond the last minute stops", fits("glass 3 0;", "wait 9;".repeat(12) + "turn 0;", "ran 0 3;", 10), 13);
        due.due("minutes behind the day up to 40", fits("glass 3 0;", "wait 9;".repeat(4) + "wait 1;turn 0;", "ran 0 40;", 0), 4);
        due.due("laid all day", fits("glass 3 0;", "lay 0;" + "wait 9;".repeat(11), "ran 0 3;", 0), 0);
        due.due("minutes alone, no deeds", fits("glass 3 0;", "", "ran 0 3;", 10), 13);
        due.due("the last deed counts", fits("glass 3 0;", "turn 0;".repeat(39) + "turn 0;", "ran 0 3;", 10), 13);
        due.due("all but it", fits("glass 3 0;", "turn 0;".repeat(39), "ran 0 3;", 10), 10);
    }

    private void facts() {
        due.by("Terms 4", "(ran: that GLASS RUNS OUT at that minute; quiet: none does; of a GLASS that is not there: never):");
        due.due("at 3, not at 4", fits("glass 7 0;", "", "ran 0 3;", 10), 13);
        due.due("that glass", fits("glass 7 0;glass 7 0;", "", "ran 1 3;", 0), 8);
        due.due("the other one is free", fits("glass 7 0;glass 7 0;", "", "ran 1 3;", 17), 173);
        due.due("quiet: neither", fits("glass 7 0;glass 7 0;", "", "quiet 3;", 0), 49);
        due.due("both facts", fits("glass 7 0;glass 7 0;", "", "quiet 3;ran 0 2;", 0), 7);
        due.due("facts that gainsay each other", fits("glass 7 0;", "", "ran 0 3;quiet 3;", 0), 0);
        due.due("one glass at two minutes", fits("glass 7 0;", "", "ran 0 3;ran 0 5;", 0), 0);
        due.due("one glass at two minutes by a turn", fits("glass 7 0;", "wait 3;turn 0;", "ran 0 3;ran 0 10;", 10), 13);
        due.due("one fact twice", fits("glass 7 0;", "", "ran 0 3;ran 0 3;", 0), 1);
        due.due("eight facts", fits("glass 7 0;", "", "quiet 1;quiet 2;quiet 3;quiet 4;quiet 5;quiet 6;quiet 8;ran 0 7;", 10), 17);
        due.due("eight, the last not so", fits("glass 7 0;", "", "quiet 1;".repeat(7) + "ran 0 1;", 0), 0);
        due.due("glass 1 of two", fits("glass 7 0;glass 7 0;", "", "ran 1 7;", 0), 8);
        due.due("glass 2 of two", fits("glass 7 0;glass 7 0;", "", "ran 2 7;", 0), 0);
        due.due("glass 3 of three", fits("glass 1 0;".repeat(3), "", "ran 3 1;", 0), 0);
        due.due("glass 3 of four", fits("glass 1 0;".repeat(4), "", "ran 3 1;", 0), 8);
        due.due("any glass of none", fits("", "", "ran 0 1;", 0), 0);
        due.due("quiet without glasses", fits("", "", "quiet 1;quiet 40;", 0), 1);
        due.due("at 40", fits("glass 1 0;", "lay 0;" + "wait 9;".repeat(4) + "wait 3;stand 0;", "ran 0 40;", 10), 11);
    }

    private void numbers() {
        due.by("Terms 4", "how many; the k-th by numbers, as a number (a 1, then TOPS by GLASSES as digits to the base of ten);");
        SandGlasses x = due.with("glass 1 0;glass 2 0;", "", "");
        due.row("six rows", new int[] {x.fits(0, 0, 0, 0), x.fits(0, 0, 0, 10), x.fits(0, 0, 0, 11), x.fits(0, 0, 0, 12),
            x.fits(0, 0, 0, 13), x.fits(0, 0, 0, 14), x.fits(0, 0, 0, 15), x.fits(0, 0, 0, 16)},
            6, 100, 101, 102, 110, 111, 112, -2);
        x = due.with("glass 7 0;glass 7 0;glass 7 0;glass 7 0;", "", "ran 0 7;ran 1 6;ran 2 5;");
        due.row("five digits", new int[] {x.fits(0, 0, 0, 0), x.fits(0, 0, 0, 10), x.fits(0, 0, 0, 17), x.fits(0, 0, 0, 18)},
            8, 17650, 17657, -2);
    }

    private void sure() {
        due.by("Terms 4", "SURE of a GLASS: its TOP, if it is one in all that FIT;");
        SandGlasses x = due.with("glass 7 0;glass 7 0;glass 1 0;glass 7 0;", "", "ran 0 7;quiet 1;ran 3 2;");
        due.row("7, one of seven, 0, 2", new int[] {x.fits(0, 0, 0, 4), x.fits(0, 0, 0, 5), x.fits(0, 0, 0, 6), x.fits(0, 0, 0, 7)},
            7, -1, 0, 2);
        due.due("one row fits", fits("glass 7 0;", "", "ran 0 5;", 4), 5);
        due.due("two do", fits("glass 1 0;", "", "", 4), -1);
        due.due("none does", fits("glass 1 0;", "", "ran 0 2;", 4), -1);
    }

    private void ask() {
        due.by("Terms 4", "ASK: the minute, 1 .. 40, such that of all that FIT the greater number by which anything RUNS OUT then, "
            + "or nothing, is least, of several the least.");
        due.due("one glass of 1: half of them", fits("glass 1 0;", "", "", 1), 1);
        due.due("all alike: the least", fits("glass 7 0;", "", "", 1), 1);
        due.due("not what ran out for sure", fits("glass 7 0;", "", "quiet 1;quiet 2;quiet 3;", 1), 4);
        due.due("one that fits: the least", fits("glass 7 0;", "", "ran 0 7;", 1), 1);
        String late = "lay 0;" + "wait 9;".repeat(4);
        due.due("40 alone tells", fits("glass 1 0;", late + "wait 3;stand 0;", "", 1), 40);
        due.due("41 can't be asked of", fits("glass 1 0;", late + "wait 4;stand 0;", "", 1), 1);
        due.due("half and half is better than one of three", fits("glass 2 0;glass 1 0;", "", "", 1), 1);
        due.due("nearest to half", fits("glass 3 0;glass 3 0;glass 3 0;glass 3 0;", "lay 0;lay 1;wait 5;stand 0;stand 1;", "", 1), 1);
        due.due("nearest to half, later", fits("glass 3 0;glass 3 0;", "lay 0;wait 3;lay 1;wait 2;stand 0;stand 1;",
            "quiet 1;quiet 2;quiet 3;", 1), 6);
        due.due("nothing without glasses: the least", fits("", "", "", 1), 1);
        due.due("nothing fits", fits("glass 1 0;", "", "ran 0 2;", 1), -1);
    }

    private void fullAndNone() {
        due.by("Terms 5", "By a DAY and a LOG of a SHELF: FULL, NONE: GLASSES (bits) that may be full on top (TOP as SIZE), "
            + "that may have none, by any TOPS that FIT.");
        String four = "glass 3 0;".repeat(4);
        due.row("all may", new int[] {fits(four, "", "", 2), fits(four, "", "", 3)}, 15, 15);
        due.row("by facts", new int[] {fits(four, "", "ran 0 3;ran 1 2;quiet 1;", 2), fits(four, "", "ran 0 3;ran 1 2;quiet 1;", 3)},
            13, 12);
        due.row("1 is full of 1", new int[] {fits("glass 1 0;", "", "ran 0 1;", 2), fits("glass 1 0;", "", "ran 0 1;", 3)}, 1, 0);
        due.row("nothing fits", new int[] {fits(four, "", "ran 0 4;", 2), fits(four, "", "ran 0 4;", 3)}, 0, 0);
        due.row("a leak takes nothing from the size as told", new int[] {fits("glass 2 0;", "leak 0;", "", 2),
            fits("glass 2 0;", "leak 0;", "", 3)}, 1, 1);
    }

    private void answers() {
        due.by("Promise 22", "What 0: how many FIT, 1: ASK (NONE: nothing FITS), 2: FULL, 3: NONE (bits), 4 + k: SURE of a GLASS, "
            + "k 0 .. 3 (NONE: not one, nothing FITS, or there is none such), 10 + k: the k-th.");
        SandGlasses x = due.with("glass 3 0;glass 3 0;", "", "ran 0 3;");
        int[] got = new int[15];
        for (int what = 0; what < got.length; what++) {
            got[what] = x.fits(0, 0, 0, what);
        }
        due.row("3 and any", got, 4, 1, 3, 2, 3, -1, -1, -1, -2, -2, 130, 131, 132, 133, -2);
        x = due.with("glass 3 0;glass 3 0;", "", "ran 2 3;");
        for (int what = 0; what < got.length; what++) {
            got[what] = x.fits(0, 0, 0, what);
        }
        due.row("never", got, 0, -1, 0, 0, -1, -1, -1, -1, -2, -2, -2, -2, -2, -2, -2);
    }

    private void refused() {
        due.by("Promise 22", "-2: there is none such (of any), or for another what.");
        SandGlasses x = due.with("glass 3 0;", "", "");
        for (int none : new int[] {1, 2, -1, MIN, MAX}) {
            due.due("shelf " + none, x.fits(none, 0, 0, 0), -2);
            due.due("day " + none, x.fits(0, none, 0, 0), -2);
            due.due("log " + none, x.fits(0, 0, none, 0), -2);
            due.due("sure of shelf " + none, x.fits(none, 0, 0, 4), -2);
        }
        for (int what : new int[] {-1, 8, 9, 14, 15, MIN, MAX}) {
            due.due("what " + what, x.fits(0, 0, 0, what), -2);
        }
        due.row("the last that are in", new int[] {x.fits(0, 0, 0, 7), x.fits(0, 0, 0, 13)}, -1, 13);
        due.due("a new object", new SandGlasses().fits(0, 0, 0, 0), -2);
    }
}
