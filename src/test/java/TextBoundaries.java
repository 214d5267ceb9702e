/** Terms 1 and promises 6, 7, 15, 21 at their edges: what a text may tell, its faults and their places. */
final class TextBoundaries {
    private static final int MIN = Integer.MIN_VALUE;
    private static final int MAX = Integer.MAX_VALUE;
    private static final String[] KINDS = {"wait", "turn", "lay", "stand", "leak"};

    private final Sentences due;

    TextBoundaries(Sentences due) {
        this.due = due;
    }

    void run() {
        glasses();
        deedsFactsSpans();
        tokens();
        words();
        numbers();
        shelfText();
        dayText();
        logText();
        orderText();
        faultOne();
        faultTwo();
        faultThree();
        faultFour();
        sorts();
        shelf();
        deed();
        fact();
        order();
    }

    /** A text of a new object: the fault and its place, 0 and NONE if there is none. */
    private void fault(int sort, String text, int fault, int place) {
        SandGlasses x = new SandGlasses();
        String name = "[" + text.replace('\n', '~') + "] of sort " + sort;
        due.due("text " + name, Check.tell(x, sort, -1, text), fault == 0 ? 0 : -1);
        due.due("fault of " + name, x.fault(0), fault);
        due.due("place of " + name, x.fault(1), place);
        due.due("count behind " + name, x.count(sort), fault == 0 ? 1 : 0);
    }

    private void good(int sort, String text) {
        fault(sort, text, 0, -1);
    }

    private void glasses() {
        due.by("Terms 1", "A SHELF has GLASSES, at most 4, from 0 on:");
        for (int many = 0; many <= 4; many++) {
            SandGlasses x = due.with("glass 1 0;".repeat(many));
            due.due("glasses", x.shelf(0, 0), many);
            for (int g = 0; g <= 4; g++) {
                due.due("size of glass " + g + " of " + many, x.shelf(0, 10 + g), g < many ? 1 : -1);
            }
        }
        fault(0, "glass 1 0;".repeat(5), 3, 40);
        due.by("Terms 1", "SIZE, 1 .. 7,");
        for (int size = 1; size <= 7; size++) {
            due.due("size", due.with("glass " + size + " 0;").shelf(0, 10), size);
        }
        fault(0, "glass 0 0;", 2, 6);
        fault(0, "glass 8 0;", 2, 6);
        fault(0, "glass 99 0;", 2, 6);
        due.by("Terms 1", "TOP, 0 .. 7, not above SIZE,");
        for (int top = 0; top <= 7; top++) {
            due.due("top of 7", due.with("glass 7 " + top + ";").shelf(0, 20), top);
        }
        for (int size = 1; size <= 7; size++) {
            due.due("all on top", due.with("glass " + size + " " + size + ";").shelf(0, 20), size);
            fault(0, "glass " + size + " " + (size + 1) + ";", 2, 8);
        }
        fault(0, "glass 7 99;", 2, 8);
        due.by("Terms 1", "PRICE of a TURN of it, 0 .. 9 (1 at first).");
        due.due("at first", due.with("glass 1 0;").shelf(0, 30), 1);
        for (int price = 0; price <= 9; price++) {
            due.due("price", due.with("glass 1 0;price 0 " + price + ";").shelf(0, 30), price);
        }
        fault(0, "glass 1 0;price 0 10;", 2, 18);
        fault(0, "glass 1 0;price 0 99;", 2, 18);
        due.due("at first again", retold("glass 1 0;price 0 7;", "glass 1 0;").shelf(0, 30), 1);
        due.by("Terms 1", "BOTTOM is SIZE less TOP.");
        SandGlasses x = due.with("glass 7 0;glass 7 7;glass 1 0;glass 4 3;", "");
        due.row("bottoms", new int[] {x.state(0, 0, 0, 20), x.state(0, 0, 0, 21), x.state(0, 0, 0, 22),
            x.state(0, 0, 0, 23)}, 7, 0, 1, 1);
    }

    private SandGlasses retold(String shelf, String later) {
        SandGlasses x = due.with(shelf);
        due.due("in its place", Check.tell(x, 0, 0, later), 0);
        return x;
    }

    private void deedsFactsSpans() {
        due.by("Terms 1", "A DAY has DEEDS, at most 40, from 0 on.");
        SandGlasses x = due.with("", "lay 0;" + "turn 1;".repeat(38) + "leak 3;");
        due.due("deeds", x.deed(0, -1, 0), 40);
        due.due("deed 0", x.deed(0, 0, 0), 2);
        due.due("deed 39", x.deed(0, 39, 1), 3);
        due.due("deed 40", x.deed(0, 40, 0), -2);
        due.due("no deeds", due.with("", "").deed(0, -1, 0), 0);
        fault(1, "turn 1;".repeat(41), 3, 280);
        due.by("Terms 1", "A LOG has FACTS, at most 8, from 0 on: at a minute, 1 .. 40, a GLASS RAN OUT, or none did.");
        x = due.with("", "", "ran 0 1;" + "quiet 1;".repeat(6) + "ran 3 40;");
        due.due("facts", x.fact(0, -1, 0), 8);
        due.due("fact 0", x.fact(0, 0, 0), 1);
        due.due("fact 7", x.fact(0, 7, 0), 40);
        due.due("fact 8", x.fact(0, 8, 0), -2);
        due.due("no facts", due.with("", "", "").fact(0, -1, 0), 0);
        fault(2, "quiet 1;".repeat(9), 3, 64);
        good(2, "ran 0 1;ran 0 40;quiet 1;quiet 40;");
        fault(2, "ran 0 0;", 2, 6);
        fault(2, "ran 0 41;", 2, 6);
        fault(2, "quiet 0;", 2, 6);
        fault(2, "quiet 41;", 2, 6);
        due.by("Terms 1", "An ORDER has SPANS, at most 6, from 0 on, of 1 .. 30 minutes each.");
        x = due.with("", "", "", "span 1;" + "span 2;".repeat(4) + "span 30;");
        due.due("spans", x.order(0, -1), 6);
        due.due("span 0", x.order(0, 0), 1);
        due.due("span 5", x.order(0, 5), 30);
        due.due("span 6", x.order(0, 6), -1);
        due.due("no spans", due.with("", "", "", "").order(0, -1), 0);
        fault(3, "span 2;".repeat(7), 3, 42);
        fault(3, "span 0;", 2, 5);
        fault(3, "span 31;", 2, 5);
    }

    private void tokens() {
        due.by("Terms 1", "TOKENS, as long as they go, blanks (10, 32) between:");
        good(0, "\n \n glass \n 3 \n 1 \n ; \n price 0\n3; \n");
        good(0, "glass3 1;price0 3;");
        good(0, " ");
        good(0, "\n");
        good(0, "");
        due.due("12 is one number", due.with("", "", "quiet 12;").fact(0, 0, 0), 12);
        fault(0, "glass 31;", 1, 8);
        fault(0, "glass 3 1;priceglass 0 3;", 1, 10);
        for (int blank : new int[] {0, 9, 11, 13, 31, 33, 95, 160, 255}) {
            fault(0, "glass" + (char) blank + "3 1;", 1, 5);
            fault(0, "glass 3 1;" + (char) blank, 1, 10);
        }
    }

    private void words() {
        due.by("Terms 1", "words, rows of letters a .. z;");
        fault(0, "glassa 3 1;", 1, 0);
        fault(0, "glassz 3 1;", 1, 0);
        fault(0, "zglass 3 1;", 1, 0);
        fault(0, "glas 3 1;", 1, 0);
        fault(0, "glass`3 1;", 1, 5);
        fault(0, "glass{3 1;", 1, 5);
        fault(0, "glassA 3 1;", 1, 5);
        fault(0, "GLASS 3 1;", 1, 0);
        fault(0, "glass Z3 1;", 1, 6);
        fault(0, "gla ss 3 1;", 1, 0);
        String[] lines = {"glass 1 0;", "price 0 1;", "wait 1;", "turn 0;", "lay 0;", "stand 0;", "leak 0;", "ran 0 1;",
            "quiet 1;", "span 1;"};
        int[] sorts = {0, 0, 1, 1, 1, 1, 1, 2, 2, 3};
        for (int i = 0; i < lines.length; i++) {
            for (int at = 0; at < lines[i].indexOf(' '); at++) {
                fault(sorts[i], lines[i].substring(0, at) + "x" + lines[i].substring(at + 1), 1, 0);
            }
        }
    }

    private void numbers() {
        due.by("Terms 1", "NUMBERS, 1 or 2 digits;");
        SandGlasses x = due.with("glass 07 00;price 00 09;");
        due.row("two digits", new int[] {x.shelf(0, 10), x.shelf(0, 20), x.shelf(0, 30)}, 7, 0, 9);
        for (int digit = 0; digit <= 9; digit++) {
            due.due("digit " + digit, due.with("glass 1 0;price 0 " + digit + ";").shelf(0, 30), digit);
            due.due("digits 1 " + digit, due.with("", "", "quiet 1" + digit + ";").fact(0, 0, 0), 10 + digit);
        }
        fault(0, "glass 003 1;", 1, 6);
        fault(0, "glass 3 001;", 1, 8);
        fault(0, "glass 3/1;", 1, 7);
        fault(0, "glass 3:1;", 1, 7);
        fault(0, "glass -3 1;", 1, 6);
        due.by("Terms 1", "; one byte.");
        good(0, "glass 1 0;glass 1 0;");
        fault(0, "glass 1 0;;", 1, 10);
        fault(0, ";", 1, 0);
        fault(0, "glass 1 0,", 1, 9);
        fault(0, "glass 1 0:", 1, 9);
        fault(0, "glass 1 0<", 1, 9);
    }

    private void shelfText() {
        due.by("Terms 1", "A SHELF's text: {('glass' | 'price') NUMBER NUMBER ';'}");
        good(0, "");
        good(0, "glass 3 1;");
        good(0, "price 0 2;glass 3 1;price 0 3;");
        for (String text : new String[] {"glass", "glass 3", "glass 3 1", "price", "price 3", "price 3 1"}) {
            fault(0, text, 1, text.length());
            fault(0, text + "?", 1, text.length());
        }
        fault(0, "glass;", 1, 5);
        fault(0, "glass 3;", 1, 7);
        fault(0, "glass 3 1 1;", 1, 10);
        fault(0, "price 3;", 1, 7);
        for (String word : new String[] {"wait", "turn", "lay", "stand", "leak", "ran", "quiet", "span", "size", "top"}) {
            fault(0, word + " 1 1;", 1, 0);
        }
        due.by("Terms 1", "(glass: SIZE, TOP; price: a GLASS, 0 .. 3, how much; a later one of the same GLASS strikes).");
        SandGlasses x = due.with("price 3 0;" + "glass 4 2;".repeat(4) + "price 0 9;price 0 5;price 1 2;price 0 6;");
        due.row("size and top", new int[] {x.shelf(0, 10), x.shelf(0, 20)}, 4, 2);
        due.row("prices", new int[] {x.shelf(0, 30), x.shelf(0, 31), x.shelf(0, 32), x.shelf(0, 33)}, 6, 2, 1, 0);
        due.due("the later one, behind glasses", due.with("price 0 9;glass 1 0;price 0 0;").shelf(0, 30), 0);
        fault(0, "glass 4 2;".repeat(4) + "price 4 1;", 2, 46);
        fault(0, "glass 4 2;".repeat(4) + "price 99 1;", 2, 46);
    }

    private void dayText() {
        due.by("Terms 1", "A DAY's text: {('wait' | 'turn' | 'lay' | 'stand' | 'leak') NUMBER ';'} "
            + "(wait: minutes, 1 .. 9; else a GLASS, 0 .. 3).");
        good(1, "");
        for (int kind = 0; kind < 5; kind++) {
            String word = KINDS[kind];
            int least = kind == 0 ? 1 : 0;
            int greatest = kind == 0 ? 9 : 3;
            for (int number = least; number <= greatest; number++) {
                SandGlasses x = due.with("", word + " " + number + ";");
                due.due("kind", x.deed(0, 0, 0), kind);
                due.due("number", x.deed(0, 0, 1), number);
            }
            fault(1, word + " " + (greatest + 1) + ";", 2, word.length() + 1);
            fault(1, word + " 99;", 2, word.length() + 1);
            fault(1, word, 1, word.length());
            fault(1, word + " 1", 1, word.length() + 2);
            fault(1, word + " ;", 1, word.length() + 1);
            fault(1, word + " 1 1;", 1, word.length() + 3);
        }
        fault(1, "wait 0;", 2, 5);
        for (String word : new String[] {"glass", "price", "ran", "quiet", "span", "waits"}) {
            fault(1, word + " 1;", 1, 0);
        }
    }

    private void logText() {
        due.by("Terms 1", "A LOG's text: {('ran' NUMBER NUMBER | 'quiet' NUMBER) ';'} (ran: a GLASS, the minute; quiet: the minute).");
        good(2, "");
        SandGlasses x = due.with("", "", "ran 3 4;quiet 5;ran 0 1;");
        due.row("minutes", new int[] {x.fact(0, 0, 0), x.fact(0, 1, 0), x.fact(0, 2, 0)}, 4, 5, 1);
        due.row("glasses", new int[] {x.fact(0, 0, 1), x.fact(0, 1, 1), x.fact(0, 2, 1)}, 3, -1, 0);
        fault(2, "ran 4 1;", 2, 4);
        fault(2, "ran 99 1;", 2, 4);
        for (String text : new String[] {"ran", "ran 1", "ran 1 1", "quiet", "quiet 1"}) {
            fault(2, text, 1, text.length());
        }
        fault(2, "ran 1;", 1, 5);
        fault(2, "ran 1 1 1;", 1, 8);
        fault(2, "quiet 1 1;", 1, 8);
        for (String word : new String[] {"glass", "price", "wait", "turn", "lay", "stand", "leak", "span"}) {
            fault(2, word + " 1 1;", 1, 0);
        }
    }

    private void orderText() {
        due.by("Terms 1", "An ORDER's text: {'span' NUMBER ';'}.");
        good(3, "");
        good(3, "span 3;span 4;");
        for (String text : new String[] {"span", "span 1", "span 1;span"}) {
            fault(3, text, 1, text.length());
        }
        fault(3, "span;", 1, 4);
        fault(3, "span 1 1;", 1, 7);
        for (String word : new String[] {"glass", "price", "wait", "turn", "lay", "stand", "leak", "ran", "quiet"}) {
            fault(3, word + " 1;", 1, 0);
        }
    }

    private void faultOne() {
        due.by("Terms 1", "FAULTS of all, with places (a token's first byte; the end's):");
        fault(0, "  glassy 3 1;", 1, 2);
        fault(0, "  glass 3 \n 12;", 2, 12);
        fault(0, "glass 3 1", 1, 9);
        fault(0, "glass 3 1  \n", 1, 12);
        fault(1, "turn", 1, 4);
        due.by("Terms 1", "1 the first byte or token with which no text goes on (a longer row of digits is no token).");
        fault(0, "?", 1, 0);
        fault(0, "glass ? 1;?", 1, 6);
        fault(0, "glass glass 1;", 1, 6);
        fault(0, "glass 3 price;", 1, 8);
        fault(0, "glass 9 9;price 9 99;?", 1, 21);
        fault(0, "glass 1 0;".repeat(6) + "glass", 1, 65);
        fault(0, "price 3 1;glass", 1, 15);
        fault(0, "3 glass", 1, 0);
        good(2, "quiet 40;");
        fault(2, "quiet 040;", 1, 6);
        fault(2, "quiet 4000000000000;", 1, 6);
        fault(2, "quiet 1;400 quiet", 1, 8);
    }

    private void faultTwo() {
        due.by("Terms 1", "If there is none, the first by place, of one place the least:");
        fault(0, "glass 8 9;", 2, 6);
        fault(0, "glass 1 2;glass 9 0;", 2, 8);
        fault(0, "glass 1 0;".repeat(4) + "glass 8 9;", 3, 40);
        fault(0, "glass 1 0;".repeat(3) + "glass 8 0;glass 1 0;", 2, 36);
        fault(1, "wait 1;".repeat(40) + "wait 0;", 3, 280);
        fault(1, "wait 1;".repeat(39) + "wait 0;wait 1;", 2, 278);
        fault(2, "quiet 1;".repeat(8) + "quiet 0;", 3, 64);
        fault(3, "span 1;".repeat(6) + "span 0;", 3, 42);
        fault(0, "price 0 1;glass 1 2;", 2, 18);
        due.by("Terms 1", "2 a NUMBER that can't be (as above; TOP above SIZE; "
            + "a line with such a NUMBER tells its GLASS, DEED, FACT, SPAN all the same);");
        fault(0, "glass 7 8;", 2, 8);
        fault(0, "glass 6 7;", 2, 8);
        good(0, "glass 6 6;");
        fault(0, "glass 0 1;", 2, 6);
        fault(0, "glass 9 0;price 0 1;", 2, 6);
        fault(0, "glass 9 0;".repeat(5), 2, 6);
        fault(1, "lay 4;".repeat(41), 2, 4);
    }

    private void faultThree() {
        due.by("Terms 1", "3 a 5th GLASS, a 41st DEED, a 9th FACT, a 7th SPAN, at its first token.");
        good(0, "glass 1 0;".repeat(4) + "price 0 1;".repeat(5));
        fault(0, "glass 1 0;".repeat(4) + " \n glass 1 0;", 3, 43);
        fault(0, "glass 1 0;".repeat(6), 3, 40);
        good(1, "stand 0;".repeat(40));
        fault(1, "stand 0;".repeat(40) + "  wait 1;", 3, 322);
        good(2, "ran 0 1;".repeat(8));
        fault(2, "ran 0 1;".repeat(8) + "\nquiet 1;", 3, 65);
        good(3, "span 1;".repeat(6));
        fault(3, "span 1;".repeat(6) + " span 1;", 3, 43);
    }

    private void faultFour() {
        due.by("Terms 1", "If there is none of these, at the end's place, of a SHELF: "
            + "4 a GLASS that was told of (by price) and is not there.");
        for (int glasses = 0; glasses <= 4; glasses++) {
            for (int g = 0; g <= 3; g++) {
                String text = "price " + g + " 1;" + "glass 1 0;".repeat(glasses) + " \n";
                fault(0, text, g < glasses ? 0 : 4, g < glasses ? -1 : text.length());
            }
        }
        fault(0, "price 1 1;glass 1 0;price 0 1;", 4, 30);
        fault(0, "price 1 1;glass 1 0;price 0 10;", 2, 28);
        fault(0, "price 1 1;glass 1 0;price 0 1", 1, 29);
    }

    private void sorts() {
        due.by("Terms 1", "SHELVES, at most 2 (sort 0), DAYS, at most 2 (1), LOGS, at most 2 (2), ORDERS, at most 2 (3), from 0 on.");
        String[] texts = {"glass 3 1;", "wait 3;", "ran 0 3;", "span 3;"};
        for (int sort = 0; sort < 4; sort++) {
            SandGlasses x = new SandGlasses();
            for (int number = 0; number <= 1; number++) {
                due.due("text " + number, Check.tell(x, sort, -1, texts[sort]), number);
                due.due("it is there", TapeBoundaries.first(x, sort, number), 3);
            }
            due.due("a third", Check.tell(x, sort, -1, texts[sort]), -2);
            due.due("there are two", x.count(sort), 2);
            due.due("and no more", TapeBoundaries.first(x, sort, 2), sort == 1 || sort == 2 ? -2 : -1);
            due.due("of the other sorts none", x.count(0) + x.count(1) + x.count(2) + x.count(3), 2);
        }
    }

    private void shelf() {
        due.by("Promise 6", "Of a SHELF, what 0: GLASSES, 10 + k, 20 + k, 30 + k: SIZE, TOP, PRICE of a GLASS.");
        SandGlasses x = due.with("glass 7 0;glass 6 6;glass 5 1;glass 1 1;price 0 0;price 1 9;price 3 4;");
        due.due("second", Check.tell(x, 0, -1, "glass 2 1;"), 1);
        due.due("glasses", x.shelf(0, 0), 4);
        due.row("sizes", new int[] {x.shelf(0, 10), x.shelf(0, 11), x.shelf(0, 12), x.shelf(0, 13)}, 7, 6, 5, 1);
        due.row("tops", new int[] {x.shelf(0, 20), x.shelf(0, 21), x.shelf(0, 22), x.shelf(0, 23)}, 0, 6, 1, 1);
        due.row("prices", new int[] {x.shelf(0, 30), x.shelf(0, 31), x.shelf(0, 32), x.shelf(0, 33)}, 0, 9, 1, 4);
        due.row("of the second", new int[] {x.shelf(1, 0), x.shelf(1, 10), x.shelf(1, 20), x.shelf(1, 30)}, 1, 2, 1, 1);
        due.by("Promise 6", "NONE: there is none such (of either), or for another what.");
        for (int shelf : new int[] {2, -1, MIN, MAX}) {
            due.due("shelf " + shelf, x.shelf(shelf, 0), -1);
            due.due("a glass of shelf " + shelf, x.shelf(shelf, 10), -1);
        }
        for (int what : new int[] {-1, 1, 9, 14, 19, 24, 29, 34, 39, 40, MIN, MAX}) {
            due.due("what " + what, x.shelf(0, what), -1);
        }
        for (int what : new int[] {11, 13, 21, 23, 31, 33}) {
            due.due("what " + what + " of one glass", x.shelf(1, what), -1);
        }
        due.due("no shelf 0", new SandGlasses().shelf(0, 0), -1);
    }

    private void deed() {
        due.by("Promise 7", "How many DEEDS (k NONE, what 0);");
        SandGlasses x = due.with("", "wait 9;turn 3;lay 2;stand 1;leak 0;");
        due.due("second", x.text(1, -1), 1);
        due.due("deeds", x.deed(0, -1, 0), 5);
        due.due("none", x.deed(1, -1, 0), 0);
        due.due("what 1 of no deed", x.deed(0, -1, 1), -2);
        due.by("Promise 7", "of DEED k, what 0: 0 wait, 1 turn, 2 lay, 3 stand, 4 leak, 1: its number.");
        int[] numbers = {9, 3, 2, 1, 0};
        for (int k = 0; k < 5; k++) {
            due.due("kind of deed " + k, x.deed(0, k, 0), k);
            due.due("number of deed " + k, x.deed(0, k, 1), numbers[k]);
        }
        due.by("Promise 7", "-2: there is none such (of either), or for another what.");
        for (int day : new int[] {2, -1, MIN, MAX}) {
            due.due("deeds of day " + day, x.deed(day, -1, 0), -2);
            due.due("deed 0 of day " + day, x.deed(day, 0, 0), -2);
        }
        for (int k : new int[] {5, 40, -2, MIN, MAX}) {
            due.due("deed " + k, x.deed(0, k, 0), -2);
            due.due("deed " + k, x.deed(0, k, 1), -2);
        }
        due.due("deed 0 of none", x.deed(1, 0, 0), -2);
        for (int what : new int[] {-1, 2, MIN, MAX}) {
            due.due("what " + what, x.deed(0, 0, what), -2);
            due.due("what " + what + " of no deed", x.deed(0, -1, what), -2);
        }
    }

    private void fact() {
        due.by("Promise 21", "How many FACTS (k NONE, what 0);");
        SandGlasses x = due.with("", "", "ran 3 40;quiet 1;ran 0 7;");
        due.due("second", x.text(2, -1), 1);
        due.due("facts", x.fact(0, -1, 0), 3);
        due.due("none", x.fact(1, -1, 0), 0);
        due.due("what 1 of no fact", x.fact(0, -1, 1), -2);
        due.by("Promise 21", "of FACT k, what 0: the minute, 1: the GLASS (NONE: quiet).");
        due.row("minutes", new int[] {x.fact(0, 0, 0), x.fact(0, 1, 0), x.fact(0, 2, 0)}, 40, 1, 7);
        due.row("glasses", new int[] {x.fact(0, 0, 1), x.fact(0, 1, 1), x.fact(0, 2, 1)}, 3, -1, 0);
        due.by("Promise 21", "-2: there is none such (of either), or for another what.");
        for (int log : new int[] {2, -1, MIN, MAX}) {
            due.due("facts of log " + log, x.fact(log, -1, 0), -2);
            due.due("fact 0 of log " + log, x.fact(log, 0, 0), -2);
        }
        for (int k : new int[] {3, 8, -2, MIN, MAX}) {
            due.due("fact " + k, x.fact(0, k, 0), -2);
            due.due("fact " + k, x.fact(0, k, 1), -2);
        }
        due.due("fact 0 of none", x.fact(1, 0, 0), -2);
        for (int what : new int[] {-1, 2, MIN, MAX}) {
            due.due("what " + what, x.fact(0, 0, what), -2);
            due.due("what " + what + " of no fact", x.fact(0, -1, what), -2);
        }
    }

    private void order() {
        due.by("Promise 15", "How many SPANS an ORDER has (k NONE), or the k-th.");
        SandGlasses x = due.with("", "", "", "span 30;span 1;span 2;span 3;span 4;span 5;");
        due.due("second", x.text(3, -1), 1);
        due.due("spans", x.order(0, -1), 6);
        due.due("none", x.order(1, -1), 0);
        due.row("spans", new int[] {x.order(0, 0), x.order(0, 1), x.order(0, 4), x.order(0, 5)}, 30, 1, 4, 5);
        due.by("Promise 15", "NONE: there is none such (of either).");
        for (int order : new int[] {2, -1, MIN, MAX}) {
            due.due("spans of order " + order, x.order(order, -1), -1);
            due.due("span 0 of order " + order, x.order(order, 0), -1);
        }
        for (int k : new int[] {6, 7, -2, MIN, MAX}) {
            due.due("span " + k, x.order(0, k), -1);
        }
        due.due("span 0 of none", x.order(1, 0), -1);
    }
}
