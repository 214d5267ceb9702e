/** Promises 1 to 5 and 30 to 32 at their edges: the tape, what text() takes it as, faults, images. */
final class TapeBoundaries {
    private static final int MIN = Integer.MIN_VALUE;
    private static final int MAX = Integer.MAX_VALUE;
    private static final String[] GOOD = {"glass 3 1;", "wait 3;", "ran 0 3;", "span 3;"};
    private static final String[] OTHER = {"glass 5 1;", "wait 5;", "ran 0 5;", "span 5;"};

    private final Sentences due;

    TapeBoundaries(Sentences due) {
        this.due = due;
    }

    void run() {
        lastCall();
        newObject();
        feed();
        end();
        text();
        refusedText();
        fault();
        count();
        image();
        again();
    }

    private void lastCall() {
        due.by("What it is", "An object is used for at most 512 calls after it has been made; what later calls answer is free.");
        SandGlasses x = new SandGlasses();
        x.feed(0x676c6173, 0x73203120, 0x303b2020, 0x20202020, 0x20202020);
        x.text(0, -1);
        for (int call = 3; call <= 511; call++) {
            due.due("call " + call, x.tell(0, 1 + call % 30, 0), 1 + call % 30);
        }
        due.due("call 512", x.tell(0, 30, 79), 29);
    }

    private void newObject() {
        due.by("Constants", "`NONE = -1`: There is none.");
        due.due("NONE", SandGlasses.NONE, -1);
        due.by("Promise 1", "No SHELVES, DAYS, LOGS; no images.");
        SandGlasses x = new SandGlasses();
        for (int sort = 0; sort < 4; sort++) {
            due.due("count " + sort, x.count(sort), 0);
        }
        for (int k = 0; k <= 2; k++) {
            due.due("again " + k, x.again(k), false);
        }
        due.due("shelf 0", x.shelf(0, 0), -1);
        due.due("day 0", x.deed(0, -1, 0), -2);
        due.due("log 0", x.fact(0, -1, 0), -2);
        due.due("order 0", x.order(0, -1), -1);
        due.due("fault", x.fault(0), 0);
        due.due("place", x.fault(1), -1);
        due.due("no byte on the tape", x.end(1), -1);
    }

    private void feed() {
        due.by("Promise 2", "The tape: twenty bytes come behind it, of each number the highest first: how many it has.");
        SandGlasses x = new SandGlasses();
        due.due("first", x.feed(0x676c6173, 0x73203120, 0x303b676c, 0x61737320, 0x3220313b), 20);
        due.due("second", x.feed(0x676c6173, 0x73203320, 0x323b676c, 0x61737320, 0x3420333b), 40);
        due.due("four glasses of ten bytes each", x.text(0, -1), 0);
        for (int g = 0; g < 4; g++) {
            due.due("size " + g, x.shelf(0, 10 + g), g + 1);
            due.due("top " + g, x.shelf(0, 20 + g), g);
        }
        due.due("numbers below 0", x.feed(MIN, -1, -1, -1, -1), 20);
        due.due("bytes from 128 on", x.text(0, 0), -1);
        due.due("are bytes with which no text goes on", x.fault(1), 0);
        for (int at = 0; at < 20; at++) {
            int[] five = {0x20202020, 0x20202020, 0x20202020, 0x20202020, 0x20202020};
            five[at / 4] ^= (0x20 ^ 0xff) << (24 - 8 * (at % 4));
            x.feed(five[0], five[1], five[2], five[3], five[4]);
            x.text(0, 0);
            due.due("place of byte " + at, x.fault(1), at);
        }
        due.by("Promise 2", "NONE, and nothing comes, if there would be more than 600.");
        full(600, "feed of a full tape");
        full(599, "feed of 599");
        full(581, "feed of 581");
        x = new SandGlasses();
        blanks(x, 29);
        due.due("feed of 580", x.feed(0, 0, 0, 0, 0), 600);
        due.due("text", x.text(1, -1), -1);
        due.due("the bytes have come", x.fault(1), 580);
        due.by("Terms 1", "THE TAPE has at most 600 bytes.");
        x = new SandGlasses();
        String day = "wait 1;".repeat(39) + " ".repeat(600 - 39 * 7 - 10) + "stand   3;";
        due.due("six hundred bytes", Check.put(x, day), true);
        due.due("no more", x.feed(0, 0, 0, 0, 0), -1);
        due.due("a text of them all", x.text(1, -1), 0);
        due.due("its last deed", x.deed(0, 39, 1), 3);
    }

    /** A tape of a shelf and blanks up to a length of more than 580: what comes is refused, what was there is not. */
    private void full(int length, String name) {
        SandGlasses x = new SandGlasses();
        Check.put(x, "glass 3 1;" + " ".repeat(590));
        x.end(length);
        due.due(name, x.feed(0x78787878, 0x78787878, 0x78787878, 0x78787878, 0x78787878), -1);
        due.due(name + ": as long as it was", x.end(length + 1), -1);
        due.due(name + ": as long as it was", x.end(length), length);
        due.due(name + ": as it was", x.text(0, -1), 0);
        due.due(name + ": its size", x.shelf(0, 10), 3);
    }

    private static void blanks(SandGlasses x, int times) {
        for (int i = 0; i < times; i++) {
            x.feed(0x20202020, 0x20202020, 0x20202020, 0x20202020, 0x20202020);
        }
    }

    private void end() {
        due.by("Promise 3", "The tape has its first n bytes alone: n.");
        SandGlasses x = new SandGlasses();
        due.due("none of none", x.end(0), 0);
        Check.put(x, "glass 3 1;glass 9 9 9");
        due.due("all", x.end(21), 21);
        due.due("the first ten", x.end(10), 10);
        due.due("the others are gone", x.end(11), -1);
        Check.put(x, "price 0 4;");
        due.due("what comes then comes behind these", x.text(0, -1), 0);
        due.due("glasses", x.shelf(0, 0), 1);
        due.due("price", x.shelf(0, 30), 4);
        blanks(x, 30);
        due.due("six hundred", x.end(600), 600);
        due.due("none", x.end(0), 0);
        due.due("none is left", x.end(1), -1);
        due.by("Promise 3", "NONE if it has not so many, or n is below 0.");
        due.due("one of none", x.end(1), -1);
        Check.put(x, "glass 2 1;");
        for (int n : new int[] {11, 600, 601, MAX, -1, -2, MIN}) {
            due.due("end " + n, x.end(n), -1);
        }
        due.due("ten are there still", x.end(10), 10);
        due.due("as they were", x.text(0, -1), 1);
    }

    private void text() {
        due.by("Promise 4", "The tape is taken (and is empty then) as a text of a sort,");
        for (int sort = 0; sort < 4; sort++) {
            SandGlasses x = new SandGlasses();
            due.due("text of sort " + sort, Check.tell(x, sort, -1, GOOD[sort]), 0);
            due.due("the tape is empty", x.end(1), -1);
            due.due("the next begins anew", x.feed(0, 0, 0, 0, 0), 20);
            for (int other = 0; other < 4; other++) {
                due.due("count of " + other, x.count(other), other == sort ? 1 : 0);
                due.due("as another sort", Check.tell(new SandGlasses(), other, -1, GOOD[sort]), other == sort ? 0 : -1);
            }
            due.due("an empty tape is a text, too", new SandGlasses().text(sort, -1), 0);
        }
        due.by("Promise 4", "a further one (at NONE), or in the place of one: its number.");
        for (int sort = 0; sort < 4; sort++) {
            SandGlasses x = new SandGlasses();
            due.due("first", Check.tell(x, sort, -1, GOOD[sort]), 0);
            due.due("in its place", Check.tell(x, sort, 0, OTHER[sort]), 0);
            due.due("one there is", x.count(sort), 1);
            due.due("that one", first(x, sort, 0), 5);
            due.due("second", Check.tell(x, sort, -1, GOOD[sort]), 1);
            due.due("two there are", x.count(sort), 2);
            due.due("in the place of the second", Check.tell(x, sort, 1, OTHER[sort]), 1);
            due.due("in the place of the first", Check.tell(x, sort, 0, GOOD[sort]), 0);
            due.due("the first", first(x, sort, 0), 3);
            due.due("the second", first(x, sort, 1), 5);
            due.due("an empty one in its place", x.text(sort, 1), 1);
            due.due("two there are still", x.count(sort), 2);
        }
        due.by("Promise 4", "NONE: a FAULT.");
        for (int sort = 0; sort < 4; sort++) {
            for (int at = -1; at <= 0; at++) {
                SandGlasses x = new SandGlasses();
                Check.tell(x, sort, -1, GOOD[sort]);
                due.due("with a fault at " + at, Check.tell(x, sort, at, OTHER[sort] + "?"), -1);
                due.due("the tape is empty then, too", x.end(1), -1);
                due.due("there are as many as there were", x.count(sort), 1);
                due.due("the one that was there stays", first(x, sort, 0), 3);
            }
        }
    }

    static int first(SandGlasses x, int sort, int number) {
        switch (sort) {
            case 0:
                return x.shelf(number, 10);
            case 1:
                return x.deed(number, 0, 1);
            case 2:
                return x.fact(number, 0, 0);
            default:
                return x.order(number, 0);
        }
    }

    private void refusedText() {
        due.by("Promise 4", "-2: there is none such, there are as many as may be, or no such sort");
        for (int at : new int[] {-1, 0, 1, 2, 3, -2, MIN, MAX}) {
            for (int sort = 0; sort < 4; sort++) {
                for (int many = 0; many <= 2; many++) {
                    boolean in = at == -1 ? many < 2 : at >= 0 && at < many;
                    refused(sort, at, many, in ? (at == -1 ? many : at) : -2);
                }
            }
            for (int sort : new int[] {-1, 4, MIN, MAX}) {
                refused(sort, at, 1, -2);
            }
        }
        due.by("Promise 4", "(no text is read then, FAULT 0).");
        SandGlasses x = new SandGlasses();
        for (int[] call : new int[][] {{0, 0}, {4, -1}, {-1, -1}, {1, 1}}) {
            Check.tell(x, 3, -1, "?");
            due.due("a fault ahead", x.fault(0), 1);
            due.due("a tape that is no text", Check.tell(x, call[0], call[1], "glass 9 9;?"), -2);
            due.due("fault 0", x.fault(0), 0);
            due.due("no place", x.fault(1), -1);
        }
        Check.tell(x, 0, -1, "");
        Check.tell(x, 0, -1, "");
        due.due("a third with a fault", Check.tell(x, 0, -1, "?"), -2);
        due.due("fault 0", x.fault(0), 0);
    }

    /** A text where there are so many of each sort; if it is refused, nothing but the tape has changed. */
    private void refused(int sort, int at, int many, int want) {
        SandGlasses x = new SandGlasses();
        for (int i = 0; i < many * 4; i++) {
            Check.tell(x, i % 4, -1, GOOD[i % 4]);
        }
        String was = Look.at(x, 0);
        due.due("text of sort " + sort + " at " + at + " of " + many, Check.tell(x, sort, at, OTHER[sort & 3]), want);
        due.due("nothing else has changed", Look.at(x, 0).equals(was), want == -2);
    }

    private void fault() {
        due.by("Promise 5", "Of the latest text(), what 0: the FAULT, 0 without, 1: its place, NONE without.");
        SandGlasses x = new SandGlasses();
        String[] texts = {"", "glass 1 1", "glass 1 2;", "glass 1 1;".repeat(5), "price 3 1;", "glass 1 1;", "?"};
        int[] faults = {0, 1, 2, 3, 4, 0, 1};
        int[] places = {-1, 9, 8, 40, 10, -1, 0};
        Check.tell(x, 0, -1, "");
        for (int i = 0; i < texts.length; i++) {
            Check.tell(x, 0, 0, texts[i]);
            Check.put(x, "?");
            due.due("fault of " + texts[i], x.fault(0), faults[i]);
            due.due("place of " + texts[i], x.fault(1), places[i]);
            due.due("once more", x.fault(0), faults[i]);
        }
        due.by("Promise 5", "NONE for another what.");
        for (int what : new int[] {-1, 2, MIN, MAX}) {
            due.due("fault " + what, x.fault(what), -1);
        }
    }

    private void count() {
        due.by("Promise 30", "How many there are of a sort.");
        SandGlasses x = new SandGlasses();
        for (int many = 0; many <= 2; many++) {
            for (int sort = 0; sort < 4; sort++) {
                due.due("count of " + sort, x.count(sort), many);
                x.text(sort, -1);
            }
        }
        for (int sort = 0; sort < 4; sort++) {
            due.due("no third of " + sort, x.count(sort), 2);
        }
        due.by("Promise 30", "-2 for another one.");
        for (int sort : new int[] {-1, 4, MIN, MAX}) {
            due.due("count of " + sort, x.count(sort), -2);
        }
    }

    private static SandGlasses told() {
        SandGlasses x = new SandGlasses();
        for (int sort = 0; sort < 4; sort++) {
            Check.tell(x, sort, -1, GOOD[sort]);
        }
        Check.tell(x, 0, -1, "glass 2 2;?");
        Check.put(x, "glass 7 7;");
        return x;
    }

    private void image() {
        due.by("Promise 31", "Image k (0 .. 2) is all that is told (the tape, the FAULT, too), as it is now: true;");
        for (int k = 0; k <= 2; k++) {
            SandGlasses x = told();
            due.due("image " + k, x.image(k), true);
            tellAllAnew(x);
            due.due("again " + k, x.again(k), true);
            isAsTold(x);
            x.end(0);
            due.due("an image in its place", x.image(k), true);
            due.due("again", x.again(k), true);
            due.due("the later one", x.end(1), -1);
        }
        SandGlasses x = new SandGlasses();
        due.due("an image of nothing", x.image(0), true);
        tellAllAnew(x);
        due.due("again", x.again(0), true);
        for (int sort = 0; sort < 4; sort++) {
            due.due("nothing of sort " + sort, x.count(sort), 0);
        }
        due.by("Promise 31", "false for another k.");
        x = told();
        x.image(0);
        x.image(1);
        tellAllAnew(x);
        String was = Look.at(x, 4);
        for (int k : new int[] {-1, 3, MIN, MAX}) {
            due.due("image " + k, x.image(k), false);
            due.due("again " + k, x.again(k), false);
        }
        due.due("nothing has changed", Look.at(x, 4).equals(was), true);
        for (int k = 0; k <= 1; k++) {
            due.due("again", x.again(k), true);
            isAsTold(x);
        }
    }

    private void tellAllAnew(SandGlasses x) {
        for (int sort = 0; sort < 4; sort++) {
            Check.tell(x, sort, x.count(sort) == 0 ? -1 : 0, OTHER[sort]);
            Check.tell(x, sort, -1, OTHER[sort]);
        }
        Check.put(x, "span");
    }

    private void isAsTold(SandGlasses x) {
        for (int sort = 0; sort < 4; sort++) {
            due.due("count of " + sort, x.count(sort), 1);
            due.due("first of " + sort, first(x, sort, 0), 3);
        }
        due.due("fault", x.fault(0), 1);
        due.due("place", x.fault(1), 10);
        due.due("not more on the tape", x.end(11), -1);
        due.due("as much", x.end(10), 10);
        due.due("the tape's text", x.text(0, 0), 0);
        due.due("it tells", x.shelf(0, 20), 7);
    }

    private void again() {
        due.by("Promise 32", "All that is as image k has it: true;");
        SandGlasses x = told();
        x.image(0);
        tellAllAnew(x);
        x.image(1);
        String later = Look.at(x, 4);
        due.due("the earlier one", x.again(0), true);
        isAsTold(x);
        due.due("the later one", x.again(1), true);
        due.due("all as it was", Look.at(x, 4).equals(later), true);
        due.due("the earlier one once more", x.again(0), true);
        isAsTold(x);
        due.by("Promise 32", "false if there is none such.");
        x = told();
        x.image(1);
        Check.tell(x, 0, 0, OTHER[0]);
        for (int k : new int[] {0, -1, 3, MIN, MAX}) {
            due.due("again " + k, x.again(k), false);
            due.due("all stays", x.shelf(0, 10), 5);
            due.due("the fault, too", x.fault(0), 0);
        }
        due.due("again 2", x.again(2), false);
        due.due("again 1", x.again(1), true);
        due.due("the shelf", x.shelf(0, 10), 3);
    }
}
