/** The promises by hand, one method each: answers that can be worked out on paper. */
public final class PromisesTest {
    private static final String FOUR_SEVEN = "glass 4 0;glass 7 0;price 1 3;";
    private static final String LONG_DAY = "turn 0;turn 1;wait 4;lay 1;wait 2;turn 0;stand 1;wait 3;leak 1;turn 1;wait 9;leak 0;";
    private static final int ALL = 0x7ffffffe;
    private static final Check CHECK = new Check();

    public static void main(String[] args) {
        newObject();
        stop();
        state();
        tell();
        rows();
        purse();
        apart();
        span();
        need();
        plan();
        wheel();
        luck();
        duel();
        chance();
        fits();
        drawn();
        times();
        couples();
        crowd();
        same();
        early();
        after();
        images();
        emptyShelf();
        CHECK.finish();
    }

    /** Shelf 0, and day, log, order 0 where there is a text for them. */
    private static SandGlasses with(String... texts) {
        SandGlasses x = new SandGlasses();
        for (int sort = 0; sort < texts.length; sort++) {
            if (texts[sort] != null) {
                CHECK.due("text " + texts[sort], Check.tell(x, sort, -1, texts[sort]), 0);
            }
        }
        return x;
    }

    private static void many(String name, int[] got, int... want) {
        for (int i = 0; i < want.length; i++) {
            CHECK.due(name + " " + i, got[i], want[i]);
        }
    }

    private static int bits(int... at) {
        int bits = 0;
        for (int t : at) {
            bits |= 1 << t;
        }
        return bits;
    }

    private static void newObject() {
        SandGlasses x = new SandGlasses();
        for (int sort = 0; sort < 4; sort++) {
            CHECK.due("count", x.count(sort), 0);
        }
        CHECK.due("fault", x.fault(0), 0);
        CHECK.due("place", x.fault(1), -1);
        CHECK.due("image", x.again(0), false);
        CHECK.due("an object of its own", with(FOUR_SEVEN).count(0) + new SandGlasses().count(0), 1);
    }

    private static int stopOf(String shelf, String day) {
        return with(shelf, day).stop(0, 0);
    }

    private static void stop() {
        CHECK.due("all", stopOf(FOUR_SEVEN, LONG_DAY), 12);
        CHECK.due("nothing", stopOf(FOUR_SEVEN, ""), 0);
        CHECK.due("no such glass", stopOf(FOUR_SEVEN, "wait 1;turn 2;"), 1);
        CHECK.due("turn of a laid one", stopOf(FOUR_SEVEN, "lay 0;turn 1;turn 0;"), 2);
        CHECK.due("lay of a laid one", stopOf(FOUR_SEVEN, "lay 0;lay 0;"), 1);
        CHECK.due("stand of one that stands", stopOf(FOUR_SEVEN, "lay 0;stand 0;stand 0;"), 2);
        CHECK.due("leak of a laid one", stopOf(FOUR_SEVEN, "lay 0;leak 0;"), 2);
        CHECK.due("leak without bottom", stopOf("glass 3 3;", "leak 0;"), 0);
        CHECK.due("leak behind a minute", stopOf("glass 3 3;", "wait 1;leak 0;leak 0;"), 2);
        CHECK.due("leak of size 1", stopOf("glass 3 0;", "leak 0;leak 0;leak 0;"), 2);
        String eleven = "wait 9;".repeat(11);
        CHECK.due("minute 99", stopOf(FOUR_SEVEN, eleven), 11);
        CHECK.due("beyond minute 99", stopOf(FOUR_SEVEN, eleven + "turn 0;wait 1;"), 12);
        CHECK.due("beyond by part of it", stopOf(FOUR_SEVEN, "wait 9;".repeat(10) + "wait 8;wait 2;wait 1;"), 11);
        CHECK.due("without glasses", stopOf("", "wait 3;lay 0;"), 1);
    }

    private static void state() {
        SandGlasses x = with(FOUR_SEVEN, LONG_DAY);
        int[] tops0 = {0, 4, 4, 0, 0, 0, 4, 4, 1, 1, 1, 0, 0};
        int[] tops1 = {0, 0, 7, 3, 3, 3, 3, 3, 0, 0, 6, 0, 0};
        int[] bottoms0 = {4, 0, 0, 4, 4, 4, 0, 0, 3, 3, 3, 4, 3};
        int[] bottoms1 = {7, 7, 0, 4, 4, 4, 4, 4, 7, 6, 0, 6, 6};
        int[] minutes = {0, 0, 0, 4, 4, 6, 6, 6, 9, 9, 9, 18, 18};
        int[] laid = {0, 0, 0, 0, 2, 2, 2, 0, 0, 0, 0, 0, 0};
        int[] ran = {0, 0, 0, 1, 1, 1, 1, 1, 2, 2, 2, 4, 4};
        int[] turns = {0, 1, 2, 2, 2, 2, 3, 3, 3, 3, 4, 4, 4};
        int[] ran1 = {0, 0, 0, 0, 0, 0, 0, 0, 1, 1, 1, 2, 2};
        for (int n = 0; n <= 12; n++) {
            CHECK.due("minute " + n, x.state(0, 0, n, 0), minutes[n]);
            CHECK.due("laid " + n, x.state(0, 0, n, 1), laid[n]);
            CHECK.due("ran " + n, x.state(0, 0, n, 2), ran[n]);
            CHECK.due("turns " + n, x.state(0, 0, n, 3), turns[n]);
            CHECK.due("top 0 " + n, x.state(0, 0, n, 10), tops0[n]);
            CHECK.due("top 1 " + n, x.state(0, 0, n, 11), tops1[n]);
            CHECK.due("bottom 0 " + n, x.state(0, 0, n, 20), bottoms0[n]);
            CHECK.due("bottom 1 " + n, x.state(0, 0, n, 21), bottoms1[n]);
            CHECK.due("ran 0 " + n, x.state(0, 0, n, 30), ran[n] - ran1[n]);
            CHECK.due("ran 1 " + n, x.state(0, 0, n, 31), ran1[n]);
        }
        CHECK.due("state 13", x.state(0, 0, 13, 0), -1);
        CHECK.due("state -1", x.state(0, 0, -1, 0), -1);
        CHECK.due("glass 2", x.state(0, 0, 1, 12), -1);
        Check.tell(x, 1, 0, "lay 0;turn 0;wait 1;");
        CHECK.due("up to stop", x.state(0, 0, 1, 1), 1);
        CHECK.due("beyond stop", x.state(0, 0, 2, 1), -1);
    }

    private static void tell() {
        SandGlasses x = with(FOUR_SEVEN);
        int[] turns = {-1, -1, -1, 1, -1, -1, 1, 2, 5, 4, 2, 3};
        int[] haste = {-1, -1, -1, 1, -1, -1, 1, 2, 4, 3, 2, 3};
        int[] cheap = {-1, -1, -1, 1, -1, -1, 3, 2, 11, 6, 4, 3};
        for (int t = 1; t <= 12; t++) {
            CHECK.due("turns " + t, x.tell(0, t, 0), turns[t - 1]);
            CHECK.due("haste " + t, x.tell(0, t, 1), haste[t - 1]);
            CHECK.due("cheap " + t, x.tell(0, t, 2), cheap[t - 1]);
        }
        CHECK.due("28 by four turns", x.tell(0, 28, 0), 4);
        CHECK.due("28 by seven cheap ones", x.tell(0, 28, 2), 7);
        Check.tell(x, 0, 0, "glass 4 0;glass 7 0;price 0 0;price 1 0;");
        CHECK.due("prices of 0", x.tell(0, 9, 2), 0);
        CHECK.due("the turns are as many", x.tell(0, 9, 0), 5);
        Check.tell(x, 0, 0, FOUR_SEVEN);
        CHECK.due("and prices again", x.tell(0, 9, 2), 11);
        Check.tell(x, 0, 0, "glass 4 0;glass 7 0;price 0 2;price 1 3;");
        CHECK.due("another price of glass 0", x.tell(0, 9, 2), 13);
        Check.tell(x, 0, 0, "glass 4 0;glass 7 0;price 0 2;price 1 4;");
        CHECK.due("another price of glass 1", x.tell(0, 9, 2), 16);
    }

    private static void rows() {
        SandGlasses x = with(FOUR_SEVEN);
        many("row of 9", new int[] {x.tell(0, 9, 10), x.tell(0, 9, 11), x.tell(0, 9, 12), x.tell(0, 9, 13), x.tell(0, 9, 14)},
            3, 1, 2, 2, -1);
        many("minutes of 9", new int[] {x.tell(0, 9, 50), x.tell(0, 9, 51), x.tell(0, 9, 52), x.tell(0, 9, 53), x.tell(0, 9, 54)},
            0, 4, 7, 8, -1);
        many("used of 9", new int[] {x.tell(0, 9, 3), x.tell(0, 9, 4), x.tell(0, 9, 5)}, 2, 3, -1);
        many("row of 11: the least set first", new int[] {x.tell(0, 11, 10), x.tell(0, 11, 11), x.tell(0, 11, 12)}, 1, 2, -1);
        CHECK.due("none of 5", x.tell(0, 5, 10), -1);
        CHECK.due("none of 5", x.tell(0, 5, 50), -1);
        CHECK.due("none of 5", x.tell(0, 5, 3), -1);
        x.tell(0, 9, 2);
        CHECK.due("behind prices the row is the same", x.tell(0, 9, 12), 2);
        Check.tell(x, 0, 0, "glass 3 1;glass 3 3;price 0 0;");
        many("row of 4", new int[] {x.tell(0, 4, 0), x.tell(0, 4, 10), x.tell(0, 4, 11), x.tell(0, 4, 12), x.tell(0, 4, 13)},
            1, 0, 1, 0, -1);
        many("minutes of 4", new int[] {x.tell(0, 4, 50), x.tell(0, 4, 51), x.tell(0, 4, 52), x.tell(0, 4, 53)}, 0, 1, 3, -1);
        Check.tell(x, 0, 0, "glass 1 0;");
        CHECK.due("30 sets", x.tell(0, 30, 39), 1);
        CHECK.due("no 31st", x.tell(0, 30, 40), -1);
        CHECK.due("its minute", x.tell(0, 30, 79), 29);
        CHECK.due("used", x.tell(0, 30, 3), 30);
        CHECK.due("haste", x.tell(0, 30, 1), 30);
    }

    private static void purse() {
        SandGlasses x = with(FOUR_SEVEN);
        CHECK.due("0", x.purse(0, 0), 0);
        CHECK.due("1", x.purse(0, 1), bits(4));
        CHECK.due("2", x.purse(0, 2), bits(4, 8));
        CHECK.due("3", x.purse(0, 3), bits(4, 7, 8, 12));
        CHECK.due("4", x.purse(0, 4), bits(4, 7, 8, 11, 12, 16));
        CHECK.due("99", x.purse(0, 99), x.times(0, 0));
        Check.tell(x, 0, 0, "glass 4 2;price 0 9;");
        CHECK.due("free", x.purse(0, 0), bits(2));
        CHECK.due("9", x.purse(0, 9), bits(2, 6));
    }

    private static void apart() {
        SandGlasses x = with("glass 2 0;");
        Check.tell(x, 0, -1, "glass 3 0;");
        CHECK.due("2, not 3", x.apart(0, 1), bits(2, 4, 8, 10, 14, 16, 20, 22, 26, 28));
        CHECK.due("3, not 2", x.apart(1, 0), bits(3, 9, 15, 21, 27));
        CHECK.due("one", x.apart(1, 1), 0);
    }

    private static void span() {
        SandGlasses x = with(FOUR_SEVEN);
        CHECK.due("1: from 7 to 8", x.span(0, 1), 8);
        CHECK.due("3: from 4 to 7", x.span(0, 3), 7);
        CHECK.due("4: from 0", x.span(0, 4), 4);
        CHECK.due("30", x.span(0, 30), 30);
        Check.tell(x, 0, 0, "glass 4 0;");
        CHECK.due("none", x.span(0, 3), -1);
        CHECK.due("28", x.span(0, 28), 28);
        Check.tell(x, 0, 0, "glass 7 1;");
        CHECK.due("7: from 1 to 8", x.span(0, 7), 8);
        CHECK.due("29 would end at 35", x.span(0, 29), 29);
        CHECK.due("28", x.span(0, 28), 29);
        CHECK.due("26: none", x.span(0, 26), -1);
    }

    private static void need() {
        SandGlasses x = with("glass 4 0;glass 7 0;glass 4 0;glass 6 0;");
        CHECK.due("8", x.need(0, 8, false), 1);
        CHECK.due("8: the least", x.need(0, 8, true), 1);
        CHECK.due("12: the least of 0, 2, 3", x.need(0, 12, true), 1);
        CHECK.due("18", x.need(0, 18, true), 8);
        CHECK.due("11", x.need(0, 11, false), 2);
        CHECK.due("11", x.need(0, 11, true), 3);
        CHECK.due("13", x.need(0, 13, true), 3);
        CHECK.due("10: 0 and 1 by turns", x.need(0, 10, true), 3);
        CHECK.due("1: none", x.need(0, 1, false), -1);
        CHECK.due("1: none", x.need(0, 1, true), -1);
    }

    private static void plan() {
        SandGlasses x = with(FOUR_SEVEN, null, null, "span 3;span 4;");
        CHECK.due("nothing", x.plan(0, 0, 0), 0);
        CHECK.due("3: from 4 to 7", x.plan(0, 0, 1), 7);
        CHECK.due("then 4", x.plan(0, 0, 2), 11);
        CHECK.due("a row", x.tell(0, 9, 12), 2);
        CHECK.due("once more", x.plan(0, 0, 2), 11);
        CHECK.due("another row", x.tell(0, 10, 10), 3);
        CHECK.due("its turns", x.tell(0, 10, 0), 4);
        CHECK.due("its price", x.tell(0, 10, 2), 6);
        CHECK.due("and once more", x.plan(0, 0, 2), 11);
        Check.tell(x, 3, 0, "span 30;span 30;span 30;span 4;");
        CHECK.due("30", x.plan(0, 0, 1), 30);
        CHECK.due("90", x.plan(0, 0, 3), 90);
        CHECK.due("beyond", x.plan(0, 0, 4), -1);
        Check.tell(x, 0, 0, "glass 7 1;");
        Check.tell(x, 3, 0, "span 7;span 14;span 1;");
        CHECK.due("from 1", x.plan(0, 0, 1), 8);
        CHECK.due("and on", x.plan(0, 0, 2), 22);
        CHECK.due("never", x.plan(0, 0, 3), -1);
    }

    private static void wheel() {
        SandGlasses x = with(FOUR_SEVEN);
        many("4 and 7", new int[] {x.wheel(0, 1), x.wheel(0, 2), x.wheel(0, 3)}, 0, 2, 8);
        CHECK.due("never both before 11", x.wheel(0, 0) & (bits(11) - 1), bits(8));
        Check.tell(x, 0, 0, "glass 3 1;glass 3 3;");
        many("3 and 3", new int[] {x.wheel(0, 1), x.wheel(0, 2), x.wheel(0, 3)}, 1, 1, 3);
        Check.tell(x, 0, 0, "glass 4 0;");
        many("one", new int[] {x.wheel(0, 0), x.wheel(0, 1), x.wheel(0, 2), x.wheel(0, 3)},
            bits(4, 8, 12, 16, 20, 24, 28), 0, 1, 4);
        Check.tell(x, 0, 0, "glass 4 4;glass 2 2;");
        many("nothing runs", new int[] {x.wheel(0, 1), x.wheel(0, 2), x.wheel(0, 3)}, -1, -1, -1);
        CHECK.due("not at minute 4 of 4 and 2 left alone", x.wheel(0, 0) & bits(1, 2, 3), 0);
        CHECK.due("but by a turn at 2", x.wheel(0, 0) & bits(4), bits(4));
    }

    private static void fraction(String name, long over, long under, long wantOver, long wantUnder) {
        CHECK.due(name, over, wantOver);
        CHECK.due(name + " under", under, wantUnder);
    }

    private static void luck() {
        SandGlasses x = with(FOUR_SEVEN);
        fraction("3", x.luck(0, 3, false), x.luck(0, 3, true), 0, 1);
        fraction("4", x.luck(0, 4, false), x.luck(0, 4, true), 1, 2);
        fraction("7", x.luck(0, 7, false), x.luck(0, 7, true), 3, 8);
        fraction("8", x.luck(0, 8, false), x.luck(0, 8, true), 9, 32);
        Check.tell(x, 0, 0, "glass 1 0;glass 1 0;glass 1 0;glass 1 0;");
        fraction("15 of 16, ten times", x.luck(0, 10, false), x.luck(0, 10, true), 576650390625L, 1L << 40);
        Check.tell(x, 0, 0, "glass 2 1;");
        fraction("sure", x.luck(0, 1, false), x.luck(0, 1, true), 1, 1);
    }

    private static void duel() {
        SandGlasses x = with(FOUR_SEVEN);
        many("minutes", new int[] {x.duel(0, 0, false), x.duel(0, 1, false), x.duel(0, 2, false), x.duel(0, 3, false)},
            0, 7, 7, 10);
        many("sets", new int[] {x.duel(0, 0, true), x.duel(0, 1, true), x.duel(0, 2, true), x.duel(0, 3, true)},
            -1, 2, 2, 3);
        Check.tell(x, 0, 0, "glass 3 3;");
        CHECK.due("left alone", x.duel(0, 1, false), 3);
        CHECK.due("the least set", x.duel(0, 1, true), 0);
        CHECK.due("the other lets it lie", x.duel(0, 2, false), 3);
        CHECK.due("and the duel ends then", x.duel(0, 3, false), 3);
        CHECK.due("four", x.duel(0, 4, false), 3);
    }

    private static void chance() {
        SandGlasses x = with(FOUR_SEVEN);
        fraction("none", x.chance(0, 3, 0, false), x.chance(0, 3, 0, true), 49, 100);
        fraction("4", x.chance(0, 3, 4, false), x.chance(0, 3, 4, true), 3, 10);
        fraction("7", x.chance(0, 3, 7, false), x.chance(0, 3, 7, true), 21, 100);
        fraction("5", x.chance(0, 3, 5, false), x.chance(0, 3, 5, true), 0, 1);
        fraction("p 0", x.chance(0, 0, 0, false), x.chance(0, 0, 0, true), 1, 1);
        fraction("p 10", x.chance(0, 10, 4, false), x.chance(0, 10, 4, true), 1, 1);
        fraction("p 5", x.chance(0, 5, 7, false), x.chance(0, 5, 7, true), 1, 4);
    }

    private static void fits() {
        SandGlasses x = with(FOUR_SEVEN, "", "ran 0 3;");
        many("ran 0 3", new int[] {x.fits(0, 0, 0, 0), x.fits(0, 0, 0, 1), x.fits(0, 0, 0, 2), x.fits(0, 0, 0, 3),
            x.fits(0, 0, 0, 4), x.fits(0, 0, 0, 5), x.fits(0, 0, 0, 6), x.fits(0, 0, 0, 7), x.fits(0, 0, 0, 8)},
            8, 1, 2, 2, 3, -1, -1, -1, -2);
        CHECK.due("the first", x.fits(0, 0, 0, 10), 130);
        CHECK.due("the last", x.fits(0, 0, 0, 17), 137);
        CHECK.due("no more", x.fits(0, 0, 0, 18), -2);
        Check.tell(x, 2, 0, "ran 0 3;quiet 1;quiet 2;quiet 4;quiet 5;quiet 6;quiet 7;");
        CHECK.due("two fit", x.fits(0, 0, 0, 0), 2);
        CHECK.due("they are told apart by none", x.fits(0, 0, 0, 1), 1);
        CHECK.due("second", x.fits(0, 0, 0, 11), 133);
        Check.tell(x, 2, 0, "ran 2 3;");
        many("never", new int[] {x.fits(0, 0, 0, 0), x.fits(0, 0, 0, 1), x.fits(0, 0, 0, 2), x.fits(0, 0, 0, 3),
            x.fits(0, 0, 0, 4), x.fits(0, 0, 0, 10)}, 0, -1, 0, 0, -1, -2);
        Check.tell(x, 2, 0, "");
        many("all", new int[] {x.fits(0, 0, 0, 0), x.fits(0, 0, 0, 2), x.fits(0, 0, 0, 3), x.fits(0, 0, 0, 10),
            x.fits(0, 0, 0, 49), x.fits(0, 0, 0, 50)}, 40, 3, 3, 100, 147, -2);
        Check.tell(x, 2, 0, "ran 0 1;ran 0 2;");
        CHECK.due("twice by no day", x.fits(0, 0, 0, 0), 0);
        Check.tell(x, 0, 0, "glass 3 0;");
        Check.tell(x, 1, 0, "wait 1;turn 0;leak 0;wait 9;turn 0;");
        Check.tell(x, 2, 0, "ran 0 2;");
        CHECK.due("the day stops where the tops have it", x.fits(0, 0, 0, 0), 1);
        CHECK.due("3 on top: 2 left, turned, 1 on top", x.fits(0, 0, 0, 10), 13);
        CHECK.due("sure", x.fits(0, 0, 0, 4), 3);
        CHECK.due("full", x.fits(0, 0, 0, 2), 1);
        CHECK.due("none", x.fits(0, 0, 0, 3), 0);
        Check.tell(x, 1, 0, "wait 9;".repeat(4) + "turn 0;");
        Check.tell(x, 2, 0, "ran 0 39;");
        CHECK.due("minutes alone behind the day", x.fits(0, 0, 0, 0), 4);
        Check.tell(x, 2, 0, "ran 0 40;");
        CHECK.due("that is 36 and 4 more than it holds", x.fits(0, 0, 0, 0), 0);
        Check.tell(x, 1, 0, "wait 9;".repeat(4) + "wait 1;turn 0;");
        CHECK.due("minute 40", x.fits(0, 0, 0, 0), 4);
        Check.tell(x, 1, 0, "wait 1;turn 1;wait 1;turn 0;");
        Check.tell(x, 2, 0, "ran 0 3;");
        CHECK.due("a glass that is not there ends the day", x.fits(0, 0, 0, 0), 1);
        CHECK.due("so that nothing is turned", x.fits(0, 0, 0, 10), 13);
        Check.tell(x, 1, 0, "wait 9;".repeat(11) + "wait 1;turn 0;");
        CHECK.due("up to minute 99", x.fits(0, 0, 0, 0), 1);
        Check.tell(x, 1, 0, "turn 0;turn 0;".repeat(20));
        CHECK.due("forty deeds", x.fits(0, 0, 0, 10), 13);
        Check.tell(x, 1, 0, "turn 0;turn 0;".repeat(19) + "turn 0;");
        CHECK.due("thirty-nine", x.fits(0, 0, 0, 10), 10);
        Check.tell(x, 1, 0, "");
        Check.tell(x, 2, 0, "");
        CHECK.due("ask: 1 is as good as 2 and 3", x.fits(0, 0, 0, 1), 1);
        Check.tell(x, 0, 0, "glass 1 0;");
        Check.tell(x, 1, 0, "lay 0;" + "wait 9;".repeat(4) + "wait 3;stand 0;");
        CHECK.due("ask: 40 alone tells", x.fits(0, 0, 0, 1), 40);
    }

    private static void drawn() {
        SandGlasses x = with("glass 5 5;");
        // From 0 on x is 12345, and 0 is drawn: wait; then -740551042, 54236 is drawn, 2 below 9: 3 minutes.
        many("once", new int[] {x.drawn(0, 0, 1, 0), x.drawn(0, 0, 1, 10), x.drawn(0, 0, 1, 20)}, 3, 2, 3);
        CHECK.due("not at all", x.drawn(0, 0, 0, 10), 5);
        int most = 0;
        for (int seed = 0; seed < 40; seed++) {
            most = Math.max(most, x.drawn(0, seed, 60, 0));
            CHECK.due("sand", x.drawn(0, seed, 60, 10) + x.drawn(0, seed, 60, 20) <= 5, true);
        }
        CHECK.due("no minute beyond 99", most <= 99 && most > 90, true);
    }

    private static void times() {
        SandGlasses x = with("glass 4 2;glass 6 3;glass 4 2;glass 2 0;");
        many("of the shelf", new int[] {x.times(0, 9), x.times(0, 10), x.times(0, 11), x.times(0, 12), x.times(0, 13)},
            2, 7, 7, 3, 1);
        CHECK.due("free", x.times(0, 8), bits(2, 3));
        CHECK.due("alone", x.times(0, 23), 0x55555554);
        CHECK.due("alone", x.times(0, 21), bits(3, 9, 15, 21, 27));
        Check.tell(x, 0, 0, FOUR_SEVEN);
        many("4 and 7", new int[] {x.times(0, 0), x.times(0, 1), x.times(0, 2), x.times(0, 3), x.times(0, 4), x.times(0, 5),
            x.times(0, 6), x.times(0, 7), x.times(0, 8)},
            ALL & ~bits(1, 2, 3, 5, 6), 10, 4, 30, 1, 24, 13, 6, 0);
        CHECK.due("still", x.times(0, 14), 7);
        Check.tell(x, 0, 0, "glass 1 0;");
        many("1", new int[] {x.times(0, 0), x.times(0, 1), x.times(0, 2), x.times(0, 3), x.times(0, 4), x.times(0, 5),
            x.times(0, 6), x.times(0, 7), x.times(0, 14)}, ALL, 1, 1, 30, -1, 30, 30, 30, 1);
        Check.tell(x, 0, 0, "glass 7 7;glass 7 7;");
        many("7 full", new int[] {x.times(0, 0), x.times(0, 1), x.times(0, 13), x.times(0, 12)}, bits(7, 14, 21, 28), 2, 1, 7);
    }

    private static void couples() {
        SandGlasses x = with("glass 4 0;glass 7 0;glass 4 0;glass 6 0;");
        CHECK.due("11: not of 4, 4, 6 alone", x.couples(0, 11), 3);
        CHECK.due("7", x.couples(0, 7), 3);
        CHECK.due("1", x.couples(0, 1), 0);
        Check.tell(x, 0, 0, "glass 1 0;");
        CHECK.due("one glass", x.couples(0, 1), 0);
    }

    private static void crowd() {
        SandGlasses x = with(FOUR_SEVEN);
        many("rows", new int[] {x.crowd(0, 0), x.crowd(0, 1), x.crowd(0, 4), x.crowd(0, 7), x.crowd(0, 8)}, 1, 0, 2, 2, 3);
        CHECK.due("30", x.crowd(0, 30) > 0, true);
    }

    private static void same() {
        SandGlasses x = with(FOUR_SEVEN);
        for (int t = 1; t <= 30; t++) {
            CHECK.due("same " + t, x.same(0, t), t % 4 == 0 ? 1 : 0);
        }
        Check.tell(x, 0, 0, "glass 3 3;");
        CHECK.due("nothing runs", x.same(0, 3), 0);
        Check.tell(x, 0, 0, "glass 3 1;glass 3 3;");
        many("same", new int[] {x.same(0, 1), x.same(0, 2), x.same(0, 5), x.same(0, 29)}, 0, 1, 1, 1);
    }

    private static void early() {
        SandGlasses x = with(FOUR_SEVEN);
        many("early", new int[] {x.early(0, 0, false), x.early(0, 1, false), x.early(0, 2, false), x.early(0, 3, false)}, 0, 4, 7, 8);
        many("late", new int[] {x.early(0, 0, true), x.early(0, 1, true), x.early(0, 2, true), x.early(0, 4, true)}, 0, 7, 14, 28);
        Check.tell(x, 0, 0, "glass 5 0;");
        many("5", new int[] {x.early(0, 6, false), x.early(0, 6, true), x.early(0, 7, false), x.early(0, 7, true)}, 30, 30, -1, -1);
        Check.tell(x, 0, 0, "glass 1 0;");
        CHECK.due("20", x.early(0, 20, false), 20);
        CHECK.due("21", x.early(0, 21, false), -1);
    }

    private static void after() {
        SandGlasses x = with(FOUR_SEVEN, LONG_DAY);
        many("long day", new int[] {x.after(0, 0, 0), x.after(0, 0, 1), x.after(0, 0, 2), x.after(0, 0, 3), x.after(0, 0, 4), x.after(0, 0, 5)},
            4, 4, 1, 5, 4, 0);
        Check.tell(x, 1, 0, "wait 9;turn 1;");
        many("nothing runs", new int[] {x.after(0, 0, 0), x.after(0, 0, 1), x.after(0, 0, 2), x.after(0, 0, 3), x.after(0, 0, 4), x.after(0, 0, 5)},
            0, -1, 0, 9, 1, -1);
        Check.tell(x, 0, 0, "glass 3 3;glass 5 3;glass 2 0;");
        Check.tell(x, 1, 0, "wait 3;turn 1;wait 9;lay 3;turn 0;");
        many("two at once", new int[] {x.after(0, 0, 0), x.after(0, 0, 1), x.after(0, 0, 2), x.after(0, 0, 3), x.after(0, 0, 4), x.after(0, 0, 5)},
            3, 3, 2, 4, 1, 1);
    }

    private static void images() {
        SandGlasses x = with(FOUR_SEVEN, LONG_DAY, "ran 0 4;", "span 3;");
        CHECK.due("again without", x.again(1), false);
        Check.tell(x, 1, 0, "x");
        Check.put(x, "glass");
        CHECK.due("image", x.image(1), true);
        CHECK.due("turns", x.tell(0, 9, 0), 5);
        x.text(0, 0);
        Check.tell(x, 0, 0, "glass 1 1;");
        Check.tell(x, 0, -1, "");
        Check.tell(x, 1, 0, "wait 1;");
        Check.tell(x, 2, -1, "quiet 2;");
        Check.tell(x, 3, 0, "");
        CHECK.due("image of later", x.image(0), true);
        CHECK.due("no image 2", x.again(2), false);
        CHECK.due("again", x.again(1), true);
        CHECK.due("fault", x.fault(0), 1);
        CHECK.due("place", x.fault(1), 0);
        many("counts", new int[] {x.count(0), x.count(1), x.count(2), x.count(3)}, 1, 1, 1, 1);
        CHECK.due("size", x.shelf(0, 10), 4);
        CHECK.due("price", x.shelf(0, 31), 3);
        CHECK.due("deeds", x.deed(0, -1, 0), 12);
        CHECK.due("fact", x.fact(0, 0, 0), 4);
        CHECK.due("order", x.order(0, 0), 3);
        CHECK.due("turns", x.tell(0, 9, 0), 5);
        CHECK.due("tape", x.end(5), 5);
        CHECK.due("tape", x.end(6), -1);
        Check.put(x, " 2 1;");
        CHECK.due("the tape goes on", x.text(0, 0), 0);
        CHECK.due("size", x.shelf(0, 10), 2);
        CHECK.due("the later one", x.again(0), true);
        many("counts", new int[] {x.count(0), x.count(1), x.count(2), x.count(3)}, 2, 1, 2, 1);
        CHECK.due("size", x.shelf(0, 10), 1);
        CHECK.due("no fault", x.fault(0), 0);
        CHECK.due("the first once more", x.again(1), true);
        CHECK.due("it has not changed", x.shelf(0, 10), 4);
        CHECK.due("image in the place of one", x.image(0), true);
        CHECK.due("again", x.again(0), true);
        CHECK.due("glasses", x.shelf(0, 0), 2);
    }

    private static void emptyShelf() {
        SandGlasses x = with("", "wait 9;", "quiet 3;", "span 1;");
        many("times", new int[] {x.times(0, 0), x.times(0, 1), x.times(0, 2), x.times(0, 3), x.times(0, 4), x.times(0, 5),
            x.times(0, 6), x.times(0, 7), x.times(0, 8), x.times(0, 9), x.times(0, 10), x.times(0, 11), x.times(0, 12),
            x.times(0, 13), x.times(0, 14), x.times(0, 20)}, 0, 1, -1, -1, 1, 0, -1, 0, 0, 0, 0, 0, 0, 0, 0, -2);
        many("wheel", new int[] {x.wheel(0, 0), x.wheel(0, 1), x.wheel(0, 2), x.wheel(0, 3)}, 0, -1, -1, -1);
        fraction("luck", x.luck(0, 10, false), x.luck(0, 10, true), 0, 1);
        fraction("chance", x.chance(0, 4, 0, false), x.chance(0, 4, 0, true), 1, 1);
        fraction("chance", x.chance(0, 4, 1, false), x.chance(0, 4, 1, true), 0, 1);
        many("fits", new int[] {x.fits(0, 0, 0, 0), x.fits(0, 0, 0, 1), x.fits(0, 0, 0, 2), x.fits(0, 0, 0, 4),
            x.fits(0, 0, 0, 10), x.fits(0, 0, 0, 11)}, 1, 1, 0, -1, 1, -2);
        many("after", new int[] {x.after(0, 0, 0), x.after(0, 0, 1), x.after(0, 0, 3), x.after(0, 0, 5)}, 0, -1, 9, -1);
        many("duel", new int[] {x.duel(0, 0, false), x.duel(0, 4, false), x.duel(0, 4, true)}, 0, 0, 0);
        many("plan", new int[] {x.plan(0, 0, 0), x.plan(0, 0, 1)}, 0, -1);
        many("early", new int[] {x.early(0, 0, false), x.early(0, 0, true), x.early(0, 1, false)}, 0, 0, -1);
        many("others", new int[] {x.tell(0, 1, 0), x.purse(0, 99), x.apart(0, 0), x.span(0, 1), x.need(0, 1, false),
            x.couples(0, 1), x.crowd(0, 0), x.crowd(0, 1), x.same(0, 1), x.stop(0, 0)}, -1, 0, 0, -1, -1, 0, 1, 0, 0, 1);
    }
}
