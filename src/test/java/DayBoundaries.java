/** Terms 2, days in terms 5, promises 8, 9, 29 at their edges: minutes that go by and deeds, up to STOP. */
final class DayBoundaries {
    private static final int MIN = Integer.MIN_VALUE;
    private static final int MAX = Integer.MAX_VALUE;
    private static final String MINUTE_98 = "wait 9;".repeat(10) + "wait 8;";
    private static final String MINUTE_99 = "wait 9;".repeat(11);

    private final Sentences due;

    DayBoundaries(Sentences due) {
        this.due = due;
    }

    void run() {
        minutes();
        turns();
        waits();
        layAndStand();
        leaks();
        cannotBe();
        states();
        stopCall();
        stateCall();
        afterWhat();
        afterCall();
    }

    private int[] tops(SandGlasses x, int n) {
        int[] tops = new int[x.shelf(0, 0)];
        for (int g = 0; g < tops.length; g++) {
            tops[g] = x.state(0, 0, n, 10 + g);
        }
        return tops;
    }

    private int[] bottoms(SandGlasses x, int n) {
        int[] bottoms = new int[x.shelf(0, 0)];
        for (int g = 0; g < bottoms.length; g++) {
            bottoms[g] = x.state(0, 0, n, 20 + g);
        }
        return bottoms;
    }

    private int[] ranOut(SandGlasses x, int n) {
        int[] often = new int[x.shelf(0, 0)];
        for (int g = 0; g < often.length; g++) {
            often[g] = x.state(0, 0, n, 30 + g);
        }
        return often;
    }

    private void stopsAt(String shelf, String day, int want) {
        due.due("stop of " + day + " with " + shelf, due.with(shelf, day).stop(0, 0), want);
    }

    private void minutes() {
        due.by("Terms 2", "As a minute goes by, of each GLASS that is not laid, and whose TOP is above 0, TOP is 1 less;");
        SandGlasses x = due.with("glass 3 0;glass 3 1;glass 3 3;glass 3 3;", "lay 3;wait 1;wait 1;wait 2;");
        due.row("ahead", tops(x, 1), 0, 1, 3, 3);
        due.row("a minute", tops(x, 2), 0, 0, 2, 3);
        due.row("two", tops(x, 3), 0, 0, 1, 3);
        due.row("four", tops(x, 4), 0, 0, 0, 3);
        due.row("bottoms of two", bottoms(x, 3), 3, 3, 2, 0);
        due.by("Terms 2", "it RUNS OUT at that minute, if TOP is 0 then.");
        due.row("ahead", ranOut(x, 1), 0, 0, 0, 0);
        due.row("a minute", ranOut(x, 2), 0, 1, 0, 0);
        due.row("two", ranOut(x, 3), 0, 1, 0, 0);
        due.row("four", ranOut(x, 4), 0, 1, 1, 0);
        due.due("of 7: not at minute 6", due.with("glass 7 7;", "wait 6;").after(0, 0, 1), -1);
        due.due("of 7: at minute 7", due.with("glass 7 7;", "wait 9;").after(0, 0, 1), 7);
    }

    private void turns() {
        due.by("Terms 2", "A TURN of a GLASS: its TOP is what its BOTTOM was, and the other way about.");
        SandGlasses x = due.with("glass 7 7;glass 5 0;glass 5 2;glass 1 1;", "turn 0;turn 1;turn 2;turn 3;turn 2;");
        due.row("tops", tops(x, 4), 0, 5, 3, 0);
        due.row("bottoms", bottoms(x, 4), 7, 0, 2, 1);
        due.row("turned twice", tops(x, 5), 0, 5, 2, 0);
        due.due("a turn to nothing on top is no running out", x.state(0, 0, 5, 2), 0);
        due.by("Terms 2", "A DAY of a SHELF begins at minute 0, nothing laid.");
        x = due.with("glass 3 1;glass 4 4;glass 5 0;glass 6 6;", "lay 0;lay 1;lay 2;lay 3;wait 9;");
        due.due("minute", x.state(0, 0, 0, 0), 0);
        due.due("laid", x.state(0, 0, 0, 1), 0);
        due.row("tops as told", tops(x, 0), 1, 4, 0, 6);
        x.stop(0, 0);
        due.due("another day, too", Check.tell(x, 1, -1, "stand 0;"), 1);
        due.due("nothing is laid to stand up", x.stop(0, 1), 0);
        due.due("the first day once more", x.state(0, 0, 5, 1), 15);
        due.due("then minute 0", x.state(0, 1, 0, 0), 0);
    }

    private void waits() {
        due.by("Terms 2", "wait: so many minutes go by, one behind the other (not beyond minute 99).");
        SandGlasses x = due.with("glass 7 7;glass 3 3;", "wait 1;wait 9;");
        due.due("one", x.state(0, 0, 1, 0), 1);
        due.due("ten", x.state(0, 0, 2, 0), 10);
        due.due("run out at minute 3, amid the wait", x.after(0, 0, 1), 3);
        due.due("and at minute 7", x.after(0, 0, 0), 2);
        x = due.with("glass 7 7;", MINUTE_99 + "wait 1;");
        due.due("minute 99 is in", x.state(0, 0, 11, 0), 99);
        due.due("minute 100 is out", x.stop(0, 0), 11);
        x = due.with("glass 7 7;", MINUTE_98 + "wait 1;turn 0;");
        due.due("one more of 98 is in", x.stop(0, 0), 13);
        due.due("minute 99", x.state(0, 0, 12, 0), 99);
        x = due.with("glass 7 7;", MINUTE_98 + "turn 0;wait 2;turn 0;");
        due.due("two more of 98 are out", x.stop(0, 0), 12);
        due.due("no part of them goes by", x.state(0, 0, 12, 0), 98);
        due.due("nor any sand", x.state(0, 0, 12, 10), 7);
        due.due("no state behind", x.state(0, 0, 13, 0), -1);
        stopsAt("", MINUTE_99, 11);
        stopsAt("", MINUTE_99 + "wait 9;", 11);
    }

    private void layAndStand() {
        due.by("Terms 2", "turn: a GLASS that is not laid is TURNED.");
        stopsAt("glass 3 1;", "turn 0;", 1);
        stopsAt("glass 3 1;", "lay 0;turn 0;", 1);
        stopsAt("glass 3 1;", "lay 0;stand 0;turn 0;", 3);
        stopsAt("glass 3 1;glass 3 1;", "lay 0;turn 1;", 2);
        due.row("tops", tops(due.with("glass 3 1;glass 3 1;", "lay 0;turn 1;"), 2), 1, 2);
        due.due("turns", due.with("glass 3 1;glass 3 1;", "lay 0;turn 1;turn 0;").after(0, 0, 4), 1);
        due.by("Terms 2", "lay: a GLASS that is not laid is.");
        SandGlasses x = due.with("glass 3 1;glass 3 1;", "lay 1;lay 0;lay 1;");
        due.row("laid", new int[] {x.state(0, 0, 0, 1), x.state(0, 0, 1, 1), x.state(0, 0, 2, 1)}, 0, 2, 3);
        due.due("one that is laid can't be", x.stop(0, 0), 2);
        due.by("Terms 2", "stand: one that is laid is no more.");
        x = due.with("glass 3 3;glass 3 3;", "lay 0;lay 1;wait 1;stand 0;wait 1;stand 0;");
        due.due("laid", x.state(0, 0, 4, 1), 2);
        due.row("it runs again", tops(x, 5), 2, 3);
        due.due("one that is not laid can't be", x.stop(0, 0), 5);
        stopsAt("glass 3 3;", "stand 0;", 0);
        stopsAt("glass 3 3;glass 3 3;", "lay 0;stand 1;", 1);
    }

    private void leaks() {
        due.by("Terms 2", "leak: a GLASS whose BOTTOM is above 0, SIZE above 1, has SIZE 1 less (of its BOTTOM; laid, too).");
        stopsAt("glass 3 3;", "leak 0;", 0);
        SandGlasses x = due.with("glass 3 2;", "leak 0;leak 0;");
        due.due("bottom 1 is in, bottom 0 is out", x.stop(0, 0), 1);
        due.row("of its bottom", bottoms(x, 1), 0);
        due.row("not of its top", tops(x, 1), 2);
        x = due.with("glass 2 0;", "leak 0;leak 0;");
        due.due("size 2 is in, size 1 is out", x.stop(0, 0), 1);
        due.row("one is left", bottoms(x, 1), 1);
        stopsAt("glass 1 0;", "leak 0;", 0);
        stopsAt("glass 1 1;", "leak 0;", 0);
        stopsAt("glass 7 0;", "leak 0;".repeat(7), 6);
        x = due.with("glass 4 1;", "lay 0;leak 0;stand 0;turn 0;");
        due.row("laid, too", bottoms(x, 2), 2);
        due.row("a turn behind it is of the smaller size", tops(x, 4), 2);
        due.due("a leak is no running out", x.state(0, 0, 4, 2), 0);
        due.due("the shelf is as told", x.shelf(0, 10), 4);
    }

    private void cannotBe() {
        due.by("Terms 2", "A DEED can't be, if there is no such GLASS, or it is not as said.");
        for (int glasses = 0; glasses <= 4; glasses++) {
            for (int g = 0; g <= 3; g++) {
                boolean there = g < glasses;
                String shelf = "glass 2 1;".repeat(glasses);
                stopsAt(shelf, "turn " + g + ";", there ? 1 : 0);
                stopsAt(shelf, "lay " + g + ";stand " + g + ";", there ? 2 : 0);
                stopsAt(shelf, "stand " + g + ";", 0);
                stopsAt(shelf, "leak " + g + ";", there ? 1 : 0);
            }
            stopsAt("glass 2 1;".repeat(glasses), "wait 9;", 1);
        }
        due.by("Terms 2", "STOP: the first DEED that can't be, else how many there are.");
        stopsAt("glass 3 1;", "", 0);
        stopsAt("glass 3 1;", "stand 0;", 0);
        stopsAt("glass 3 1;", "wait 1;stand 0;wait 1;stand 0;", 1);
        stopsAt("glass 3 1;", "turn 0;".repeat(40), 40);
        stopsAt("glass 3 1;", "turn 0;".repeat(39) + "stand 0;", 39);
        stopsAt("glass 3 1;", "wait 1;", 1);
    }

    private void states() {
        due.by("Terms 2", "A STATE is behind the first n DEEDS, n up to STOP.");
        SandGlasses x = due.with("glass 7 7;", "wait 1;wait 2;wait 3;");
        due.row("minutes", new int[] {x.state(0, 0, 0, 0), x.state(0, 0, 1, 0), x.state(0, 0, 2, 0), x.state(0, 0, 3, 0),
            x.state(0, 0, 4, 0), x.state(0, 0, -1, 0)}, 0, 1, 3, 6, -1, -1);
        x = due.with("glass 7 7;", "wait 1;stand 0;wait 2;");
        due.row("up to stop", new int[] {x.state(0, 0, 0, 0), x.state(0, 0, 1, 0), x.state(0, 0, 2, 0), x.state(0, 0, 3, 0)},
            0, 1, -1, -1);
        x = due.with("glass 7 7;", "stand 0;");
        due.row("stop 0", new int[] {x.state(0, 0, 0, 0), x.state(0, 0, 1, 0)}, 0, -1);
        x = due.with("glass 7 7;", "turn 0;".repeat(40));
        due.row("forty", new int[] {x.state(0, 0, 40, 3), x.state(0, 0, 41, 3)}, 40, -1);
    }

    private void stopCall() {
        due.by("Promise 8", "STOP.");
        SandGlasses x = due.with("glass 3 1;", "turn 0;turn 1;");
        due.due("second shelf", Check.tell(x, 0, -1, "glass 3 1;glass 3 1;"), 1);
        due.due("second day", Check.tell(x, 1, -1, "turn 2;"), 1);
        due.row("by shelf and day", new int[] {x.stop(0, 0), x.stop(1, 0), x.stop(0, 1), x.stop(1, 1)}, 1, 2, 0, 0);
        due.by("Promise 8", "NONE: there is none such (of either).");
        for (int none : new int[] {2, -1, MIN, MAX}) {
            due.due("shelf " + none, x.stop(none, 0), -1);
            due.due("day " + none, x.stop(0, none), -1);
            due.due("both " + none, x.stop(none, none), -1);
        }
        due.due("a new object", new SandGlasses().stop(0, 0), -1);
        due.due("no day", due.with("").stop(0, 0), -1);
        due.due("no shelf", due.with(null, "").stop(0, 0), -1);
    }

    private void stateCall() {
        due.by("Promise 9", "Of a STATE, what 0: the minute, 1: GLASSES that are laid (bits), 2: how many times one RAN OUT, "
            + "3: TURNS so far, 10 + k, 20 + k: TOP, BOTTOM of a GLASS, 30 + k: how often it RAN OUT.");
        SandGlasses x = due.with("glass 1 0;glass 2 0;glass 3 3;glass 7 6;",
            "turn 0;turn 1;wait 1;turn 0;wait 1;lay 0;lay 3;wait 2;");
        due.row("minutes", new int[] {x.state(0, 0, 0, 0), x.state(0, 0, 5, 0), x.state(0, 0, 8, 0)}, 0, 2, 4);
        due.row("laid", new int[] {x.state(0, 0, 5, 1), x.state(0, 0, 6, 1), x.state(0, 0, 7, 1)}, 0, 1, 9);
        due.row("ran out", new int[] {x.state(0, 0, 2, 2), x.state(0, 0, 3, 2), x.state(0, 0, 5, 2), x.state(0, 0, 8, 2)},
            0, 1, 3, 4);
        due.row("turns", new int[] {x.state(0, 0, 0, 3), x.state(0, 0, 2, 3), x.state(0, 0, 8, 3)}, 0, 2, 3);
        due.row("tops", tops(x, 8), 0, 0, 0, 4);
        due.row("bottoms", bottoms(x, 8), 1, 2, 3, 3);
        due.row("each", ranOut(x, 8), 2, 1, 1, 0);
        due.by("Promise 9", "NONE: there is no such STATE, or for another what.");
        for (int n : new int[] {9, 40, 41, -1, MIN, MAX}) {
            due.due("n " + n, x.state(0, 0, n, 0), -1);
        }
        for (int none : new int[] {1, 2, -1, MIN, MAX}) {
            due.due("shelf " + none, x.state(none, 0, 0, 0), -1);
            due.due("day " + none, x.state(0, none, 0, 0), -1);
        }
        for (int what : new int[] {-1, 4, 9, 14, 19, 24, 29, 34, 39, 40, MIN, MAX}) {
            due.due("what " + what, x.state(0, 0, 0, what), -1);
        }
        x = due.with("glass 1 0;", "");
        for (int what : new int[] {11, 21, 31, 13, 23, 33}) {
            due.due("what " + what + " of one glass", x.state(0, 0, 0, what), -1);
        }
        due.due("no glass at all", due.with("", "").state(0, 0, 0, 10), -1);
    }

    private int[] after(String shelf, String day) {
        SandGlasses x = due.with(shelf, day);
        int[] answers = new int[6];
        for (int what = 0; what < 6; what++) {
            answers[what] = x.after(0, 0, what);
        }
        return answers;
    }

    private void afterWhat() {
        due.by("Terms 5", "Of a DAY of a SHELF, behind all DEEDS up to STOP: RAN: how many times a GLASS RAN OUT;");
        due.due("none", after("glass 3 3;", "wait 2;")[0], 0);
        due.due("one", after("glass 3 3;", "wait 3;")[0], 1);
        due.due("one glass twice", after("glass 3 3;", "wait 3;turn 0;wait 9;")[0], 2);
        due.due("up to stop", after("glass 3 3;", "wait 3;turn 0;stand 0;wait 9;")[0], 1);
        due.due("four at once", after("glass 1 1;".repeat(4), "wait 1;")[0], 4);
        due.by("Terms 5", "FIRSTRAN: at which minute first (none);");
        due.due("none", after("glass 3 3;", "wait 2;")[1], -1);
        due.due("3", after("glass 3 3;glass 7 7;", "wait 9;")[1], 3);
        due.due("1", after("glass 3 3;glass 7 1;", "wait 9;")[1], 1);
        due.due("99", after("glass 1 1;", "lay 0;" + MINUTE_98 + "stand 0;wait 1;")[1], 99);
        due.by("Terms 5", "MOST: how many RAN OUT at one minute at most;");
        due.due("none", after("glass 3 3;", "wait 2;")[2], 0);
        due.due("one", after("glass 3 3;glass 4 4;", "wait 9;")[2], 1);
        due.due("the first two", after("glass 3 3;glass 3 3;glass 4 4;", "wait 9;")[2], 2);
        due.due("four", after("glass 2 2;".repeat(4), "wait 9;")[2], 4);
        due.by("Terms 5", "IDLE: minutes at which no sand ran;");
        due.due("none", after("glass 3 3;", "wait 3;")[3], 0);
        due.due("one", after("glass 3 3;", "wait 4;")[3], 1);
        due.due("laid", after("glass 3 3;", "lay 0;wait 2;stand 0;wait 1;")[3], 2);
        due.due("one of two runs", after("glass 3 0;glass 3 3;", "wait 3;")[3], 0);
        due.due("all of them", after("", MINUTE_99)[3], 99);
        due.by("Terms 5", "TURNS: how many;");
        due.due("none", after("glass 3 3;", "lay 0;stand 0;wait 1;leak 0;")[4], 0);
        due.due("forty", after("glass 3 3;", "turn 0;".repeat(40))[4], 40);
        due.due("up to stop", after("glass 3 3;", "turn 0;stand 0;turn 0;")[4], 1);
        due.by("Terms 5", "KEEN: the GLASS that RAN OUT most, of several the least (none: none).");
        due.due("none", after("glass 3 3;", "wait 2;")[5], -1);
        due.due("no glasses", after("", "wait 2;")[5], -1);
        due.due("the first", after("glass 1 1;glass 1 0;", "wait 1;")[5], 0);
        due.due("of two the least", after("glass 3 0;glass 3 3;glass 3 3;", "wait 3;")[5], 1);
        due.due("the one with most", after("glass 1 1;glass 1 1;glass 1 0;glass 1 1;", "wait 1;turn 3;wait 1;")[5], 3);
    }

    private void afterCall() {
        due.by("Promise 29", "What 0: RAN, 1: FIRSTRAN (NONE), 2: MOST, 3: IDLE, 4: TURNS, 5: KEEN (NONE).");
        due.row("a day", after("glass 2 0;glass 2 2;", "wait 4;turn 0;turn 1;wait 3;turn 1;wait 2;"), 4, 2, 2, 3, 3, 1);
        due.row("nothing runs", after("glass 2 0;", "wait 4;"), 0, -1, 0, 4, 0, -1);
        due.row("an empty day", after("glass 2 2;", ""), 0, -1, 0, 0, 0, -1);
        due.by("Promise 29", "-2: there is none such (of either), or for another what.");
        SandGlasses x = due.with("glass 2 0;", "wait 4;");
        for (int none : new int[] {1, 2, -1, MIN, MAX}) {
            due.due("shelf " + none, x.after(none, 0, 0), -2);
            due.due("day " + none, x.after(0, none, 0), -2);
        }
        for (int what : new int[] {-1, 6, MIN, MAX}) {
            due.due("what " + what, x.after(0, 0, what), -2);
        }
        due.due("a new object", new SandGlasses().after(0, 0, 0), -2);
    }
}
