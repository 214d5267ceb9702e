import java.util.ArrayList;
import java.util.List;
import java.util.Random;
import java.util.regex.Matcher;
import java.util.regex.Pattern;

/** Promises 2 to 7, 15, 21, 30: the tape, texts and their faults, by hand and against a reader made of patterns. */
public final class TextsTest {
    private static final Pattern TOKEN = Pattern.compile("[a-z]+|[0-9]+|;|[\n ]+|.", Pattern.DOTALL);
    private static final String[][] WORDS = {
        {"glass", "price"}, {"wait", "turn", "lay", "stand", "leak"}, {"ran", "quiet"}, {"span"}
    };
    private static final int[] ROOM = {4, 40, 8, 6};
    private static final Check CHECK = new Check();

    public static void main(String[] args) {
        tape();
        faultsByHand();
        places();
        readBack();
        againstPatterns(new Random(4), 40000);
        CHECK.finish();
    }

    private static void tape() {
        SandGlasses x = new SandGlasses();
        CHECK.due("end(0) of nothing", x.end(0), 0);
        CHECK.due("end(1) of nothing", x.end(1), -1);
        CHECK.due("end(-1)", x.end(-1), -1);
        for (int i = 1; i <= 30; i++) {
            CHECK.due("feed " + i, x.feed(0x67676767, 0, -1, 1, 2), 20 * i);
        }
        CHECK.due("feed of the 601st", x.feed(0, 0, 0, 0, 0), -1);
        CHECK.due("end(601)", x.end(601), -1);
        CHECK.due("end(600)", x.end(600), 600);
        CHECK.due("end(581)", x.end(581), 581);
        CHECK.due("feed beyond 600 in part", x.feed(0, 0, 0, 0, 0), -1);
        CHECK.due("end(580)", x.end(580), 580);
        CHECK.due("feed up to 600", x.feed(0, 0, 0, 0, 0), 600);
        CHECK.due("end MIN", x.end(Integer.MIN_VALUE), -1);
        CHECK.due("end MAX", x.end(Integer.MAX_VALUE), -1);
        CHECK.due("text of such", x.text(0, -1), -1);
        CHECK.due("its fault", x.fault(0), 1);
        CHECK.due("its place", x.fault(1), 0);
        CHECK.due("the tape is empty then", x.end(1), -1);
        x.feed('g' << 24 | 'l' << 16 | 'a' << 8 | 's', 's' << 24 | ' ' << 16 | '5' << 8 | ' ', '2' << 24 | ';' << 16, 0, 0);
        x.end(10);
        CHECK.due("the highest byte comes first", x.text(0, -1), 0);
        CHECK.due("size", x.shelf(0, 10), 5);
        CHECK.due("top", x.shelf(0, 20), 2);
    }

    private static void fault(int sort, String text, int fault, int place) {
        SandGlasses x = new SandGlasses();
        int got = Check.tell(x, sort, -1, text);
        CHECK.due("text " + sort + " " + text, got, fault == 0 ? 0 : -1);
        CHECK.due("fault of " + sort + " " + text, x.fault(0), fault);
        CHECK.due("place of " + sort + " " + text, x.fault(1), place);
        CHECK.due("count of " + sort + " " + text, x.count(sort), fault == 0 ? 1 : 0);
        CHECK.due("tape behind " + text, x.end(1), -1);
    }

    private static void faultsByHand() {
        fault(0, "", 0, -1);
        fault(0, " \n ", 0, -1);
        fault(0, "glass 7 7;", 0, -1);
        fault(0, "glass1 1;price0 9;", 0, -1);
        fault(0, "glass 07 00 ;\n", 0, -1);
        fault(0, "glass 8 0;", 2, 6);
        fault(0, "glass 0 0;", 2, 6);
        fault(0, "glass 3 4;", 2, 8);
        fault(0, "glass 3 8;", 2, 8);
        fault(0, "glass 0 1;", 2, 6);
        fault(0, "price 0 1;", 4, 10);
        fault(0, "price 0 1;  ", 4, 12);
        fault(0, "price 0 1;glass 1 1;", 0, -1);
        fault(0, "price 3 1;glass 1 1;glass 1 1;glass 1 1;", 4, 40);
        fault(0, "price 4 1;", 2, 6);
        fault(0, "price 0 10;", 2, 8);
        fault(0, "glass 1 0;glass 1 0;glass 1 0;glass 1 0;", 0, -1);
        fault(0, "glass 1 0;glass 1 0;glass 1 0;glass 1 0;glass 1 0;", 3, 40);
        fault(0, "glass 1 0;glass 1 0;glass 1 0;glass 1 0;glass 9 0;", 3, 40);
        fault(0, "glass 9 0;glass 1 0;glass 1 0;glass 1 0;glass 1 0;", 2, 6);
        fault(0, "glass 9 0;glass 1 0;x", 1, 20);
        fault(0, "glass 1 0", 1, 9);
        fault(0, "glass 1 0  ", 1, 11);
        fault(0, "glass 1;", 1, 7);
        fault(0, "glass 1 1 1;", 1, 10);
        fault(0, "glass 100 1;", 1, 6);
        fault(0, "glass 1 001;", 1, 8);
        fault(0, "glassy 1 1;", 1, 0);
        fault(0, "glas 1 1;", 1, 0);
        fault(0, "Glass 1 1;", 1, 0);
        fault(0, "glass\t1 1;", 1, 5);
        fault(0, "glass -1 1;", 1, 6);
        fault(0, "; glass 1 1;", 1, 0);
        fault(0, "1", 1, 0);
        fault(0, "wait 1;", 1, 0);
        fault(0, "glass 1 1;\u00e9", 1, 10);
        fault(1, "wait 1;turn 0;lay 1;stand 2;leak 3;", 0, -1);
        fault(1, "wait 10;", 2, 5);
        fault(1, "wait 9;", 0, -1);
        fault(1, "wait 0;", 2, 5);
        fault(1, "turn 4;", 2, 5);
        fault(1, "lay 4;", 2, 4);
        fault(1, "stand 10;", 2, 6);
        fault(1, "leak 4;", 2, 5);
        fault(1, "lay;", 1, 3);
        fault(1, "wait 1 1;", 1, 7);
        fault(1, "lay 0;".repeat(40), 0, -1);
        fault(1, "lay 0;".repeat(41), 3, 240);
        fault(1, "lay 4;" + "lay 0;".repeat(41), 2, 4);
        fault(1, "lay 0;".repeat(41) + "lay", 1, 249);
        fault(1, "glass 1 1;", 1, 0);
        fault(2, "ran 0 1;ran 3 40;quiet 1;quiet 40;", 0, -1);
        fault(2, "ran 0 41;", 2, 6);
        fault(2, "ran 0 0;", 2, 6);
        fault(2, "ran 4 1;", 2, 4);
        fault(2, "ran 1;", 1, 5);
        fault(2, "quiet 0;", 2, 6);
        fault(2, "quiet 41;", 2, 6);
        fault(2, "quiet 1 1;", 1, 8);
        fault(2, "quiet 1;".repeat(8), 0, -1);
        fault(2, "quiet 1;".repeat(9), 3, 64);
        fault(3, "span 1;span 30;", 0, -1);
        fault(3, "span 31;", 2, 5);
        fault(3, "span 0;", 2, 5);
        fault(3, "span 1;".repeat(6), 0, -1);
        fault(3, "span 1;".repeat(7), 3, 42);
        fault(3, "span", 1, 4);
    }

    /** What text() answers by place and number, and what stays. */
    private static void places() {
        for (int sort = 0; sort < 4; sort++) {
            String good = new String[] {"glass 3 1;", "wait 3;", "ran 0 3;", "span 3;"}[sort];
            String other = new String[] {"glass 5 1;", "wait 5;", "ran 0 5;", "span 5;"}[sort];
            SandGlasses x = new SandGlasses();
            CHECK.due("count", x.count(sort), 0);
            CHECK.due("in the place of none", Check.tell(x, sort, 0, good), -2);
            CHECK.due("the tape is taken", x.feed(0, 0, 0, 0, 0), 20);
            CHECK.due("in the place of none again", x.text(sort, 0), -2);
            CHECK.due("the tape is taken again", x.end(1), -1);
            CHECK.due("first", Check.tell(x, sort, -1, good), 0);
            CHECK.due("second", Check.tell(x, sort, -1, good), 1);
            CHECK.due("count", x.count(sort), 2);
            CHECK.due("with a fault", Check.tell(x, sort, 1, "x"), -1);
            CHECK.due("fault", x.fault(0), 1);
            CHECK.due("the tape is taken with a fault", x.end(1), -1);
            CHECK.due("third", Check.tell(x, sort, -1, other), -2);
            CHECK.due("no fault then", x.fault(0), 0);
            CHECK.due("no place then", x.fault(1), -1);
            CHECK.due("the tape is taken by a third", x.end(1), -1);
            CHECK.due("in the place of the third", Check.tell(x, sort, 2, other), -2);
            CHECK.due("the tape is taken in no such place", x.end(1), -1);
            CHECK.due("at -2", Check.tell(x, sort, -2, other), -2);
            CHECK.due("the tape is taken at -2", x.end(1), -1);
            CHECK.due("in the place of the second", Check.tell(x, sort, 1, other), 1);
            CHECK.due("the tape is taken", x.end(1), -1);
            CHECK.due("what stayed", first(x, sort, 0), 3);
            CHECK.due("what is new", first(x, sort, 1), 5);
            CHECK.due("an empty text", x.text(sort, 0), 0);
            CHECK.due("count", x.count(sort), 2);
            CHECK.due("nothing in it", lines(x, sort, 0), 0);
        }
        SandGlasses x = new SandGlasses();
        for (int sort : new int[] {-1, 4, Integer.MIN_VALUE, Integer.MAX_VALUE}) {
            Check.put(x, "wait 1;");
            CHECK.due("no such sort", x.text(sort, -1), -2);
            CHECK.due("the tape is taken by no such sort", x.end(1), -1);
            CHECK.due("count of no such sort", x.count(sort), -2);
        }
        CHECK.due("nothing was kept", x.count(1), 0);
        CHECK.due("fault(2)", x.fault(2), -1);
        CHECK.due("fault(-1)", x.fault(-1), -1);
    }

    private static int first(SandGlasses x, int sort, int number) {
        switch (sort) {
            case 0:
                return x.shelf(number, 10);
            case 1:
                return x.deed(number, 0, 1);
            case 2:
                return x.fact(number, 0, 0);
            default:
                return x.order(number, 0);
        }
    }

    static int lines(SandGlasses x, int sort, int number) {
        switch (sort) {
            case 0:
                return x.shelf(number, 0);
            case 1:
                return x.deed(number, -1, 0);
            case 2:
                return x.fact(number, -1, 0);
            default:
                return x.order(number, -1);
        }
    }

    private static void readBack() {
        SandGlasses x = new SandGlasses();
        Check.tell(x, 0, -1, "price 1 9;glass 7 3;glass 4 4;price 0 2;price 1 0;glass 1 0;");
        int[][] glasses = {{7, 3, 2}, {4, 4, 0}, {1, 0, 1}};
        CHECK.due("glasses", x.shelf(0, 0), 3);
        for (int g = 0; g < 4; g++) {
            for (int what = 0; what < 3; what++) {
                CHECK.due("shelf " + g + " " + what, x.shelf(0, 10 + 10 * what + g), g < 3 ? glasses[g][what] : -1);
            }
        }
        for (int what : new int[] {-1, 1, 9, 14, 19, 24, 34, 40, Integer.MIN_VALUE, Integer.MAX_VALUE}) {
            CHECK.due("shelf what " + what, x.shelf(0, what), -1);
        }
        CHECK.due("no such shelf", x.shelf(1, 0), -1);
        CHECK.due("shelf -1", x.shelf(-1, 0), -1);
        Check.tell(x, 0, 0, "glass 2 1;");
        CHECK.due("prices of the one before are gone", x.shelf(0, 30), 1);
        CHECK.due("glasses of the one before are gone", x.shelf(0, 11), -1);

        Check.tell(x, 1, -1, "wait 9;turn 3;lay 2;stand 1;leak 0;");
        int[] numbers = {9, 3, 2, 1, 0};
        for (int k = 0; k < 5; k++) {
            CHECK.due("kind " + k, x.deed(0, k, 0), k);
            CHECK.due("number " + k, x.deed(0, k, 1), numbers[k]);
            CHECK.due("other " + k, x.deed(0, k, 2), -2);
            CHECK.due("other " + k, x.deed(0, k, -1), -2);
        }
        CHECK.due("deeds", x.deed(0, -1, 0), 5);
        CHECK.due("deeds, what 1", x.deed(0, -1, 1), -2);
        CHECK.due("deed 5", x.deed(0, 5, 0), -2);
        CHECK.due("deed -2", x.deed(0, -2, 0), -2);
        CHECK.due("day 1", x.deed(1, -1, 0), -2);

        Check.tell(x, 2, -1, "ran 2 40;quiet 7;");
        CHECK.due("facts", x.fact(0, -1, 0), 2);
        CHECK.due("fact 0 minute", x.fact(0, 0, 0), 40);
        CHECK.due("fact 0 glass", x.fact(0, 0, 1), 2);
        CHECK.due("fact 1 minute", x.fact(0, 1, 0), 7);
        CHECK.due("fact 1 glass", x.fact(0, 1, 1), -1);
        CHECK.due("fact 1 other", x.fact(0, 1, 2), -2);
        CHECK.due("facts, what 1", x.fact(0, -1, 1), -2);
        CHECK.due("fact 2", x.fact(0, 2, 0), -2);
        CHECK.due("fact -2", x.fact(0, -2, 0), -2);
        CHECK.due("log 1", x.fact(1, -1, 0), -2);
        CHECK.due("log -1", x.fact(-1, -1, 0), -2);

        Check.tell(x, 3, -1, "span 30;span 1;");
        CHECK.due("spans", x.order(0, -1), 2);
        CHECK.due("span 0", x.order(0, 0), 30);
        CHECK.due("span 1", x.order(0, 1), 1);
        CHECK.due("span 2", x.order(0, 2), -1);
        CHECK.due("span -2", x.order(0, -2), -1);
        CHECK.due("order 1", x.order(1, -1), -1);
        CHECK.due("order -1", x.order(-1, 0), -1);
    }

    private static void againstPatterns(Random random, int rounds) {
        SandGlasses x = new SandGlasses();
        for (int sort = 0; sort < 4; sort++) {
            Check.tell(x, sort, -1, "");
        }
        for (int i = 0; i < rounds; i++) {
            int sort = random.nextInt(4);
            String text = spoil(random, sample(random, sort));
            int[] want = judge(sort, text);
            CHECK.due("text " + sort + " [" + text + "]", Check.tell(x, sort, 0, text), want[0] == 0 ? 0 : -1);
            CHECK.due("fault " + sort + " [" + text + "]", x.fault(0), want[0]);
            CHECK.due("place " + sort + " [" + text + "]", x.fault(1), want[1]);
            if (want[0] == 0) {
                CHECK.due("lines " + sort + " [" + text + "]", lines(x, sort, 0), want[2]);
            }
        }
    }

    static String sample(Random random, int sort) {
        StringBuilder text = new StringBuilder();
        int lines = random.nextInt(random.nextInt(8) == 0 ? ROOM[sort] + 3 : 5);
        boolean wild = random.nextInt(3) == 0;
        for (int i = 0; i < lines; i++) {
            String word = WORDS[sort][random.nextInt(WORDS[sort].length)];
            text.append(blanks(random, 0)).append(word);
            for (int n = 0; n < numbersOf(word); n++) {
                int most = wild && random.nextInt(6) == 0 ? 99 : word.equals("span") ? 30 : 3;
                text.append(blanks(random, 1)).append(most == 3 ? 1 + random.nextInt(3) : random.nextInt(most + 1));
            }
            text.append(blanks(random, 0)).append(";");
        }
        return text.append(blanks(random, 0)).toString();
    }

    private static String blanks(Random random, int least) {
        return (random.nextInt(4) == 0 ? "\n" : " ").repeat(random.nextInt(3) == 0 ? least + 1 : least);
    }

    static String spoil(Random random, String text) {
        StringBuilder spoilt = new StringBuilder(text);
        String signs = "0123456789;; \nagplsrq\t\u00ff";
        for (int i = random.nextInt(3); i > 0 && spoilt.length() > 0; i--) {
            int at = random.nextInt(spoilt.length());
            char sign = signs.charAt(random.nextInt(signs.length()));
            switch (random.nextInt(4)) {
                case 0:
                    spoilt.deleteCharAt(at);
                    break;
                case 1:
                    spoilt.insert(at, sign);
                    break;
                case 2:
                    spoilt.setCharAt(at, sign);
                    break;
                default:
                    spoilt.setLength(at);
                    break;
            }
        }
        return spoilt.toString();
    }

    private static int numbersOf(String word) {
        return word.equals("glass") || word.equals("price") || word.equals("ran") ? 2 : 1;
    }

    /** The fault, its place, the lines that make glasses, deeds, facts, spans. */
    static int[] judge(int sort, String text) {
        List<String> tokens = new ArrayList<>();
        List<Integer> places = new ArrayList<>();
        Matcher matcher = TOKEN.matcher(text);
        while (matcher.find()) {
            if (!matcher.group().isBlank() || !matcher.group().matches("[\n ]+")) {
                tokens.add(matcher.group());
                places.add(matcher.start());
            }
        }
        tokens.add("END");
        places.add(text.length());
        List<int[]> flaws = new ArrayList<>();
        int lines = 0;
        int priced = 0;
        int i = 0;
        while (!tokens.get(i).equals("END")) {
            String word = tokens.get(i);
            if (!List.of(WORDS[sort]).contains(word)) {
                return new int[] {1, places.get(i)};
            }
            if (!word.equals("price") && ++lines > ROOM[sort]) {
                flaws.add(new int[] {3, places.get(i)});
            }
            int[] numbers = new int[2];
            for (int n = 0; n < numbersOf(word); n++) {
                i++;
                if (!tokens.get(i).matches("[0-9][0-9]?")) {
                    return new int[] {1, places.get(i)};
                }
                numbers[n] = Integer.parseInt(tokens.get(i));
                if (!can(word, n, numbers)) {
                    flaws.add(new int[] {2, places.get(i)});
                }
            }
            i++;
            if (!tokens.get(i).equals(";")) {
                return new int[] {1, places.get(i)};
            }
            i++;
            priced |= word.equals("price") && numbers[0] < 4 ? 1 << numbers[0] : 0;
        }
        if (!flaws.isEmpty()) {
            return flaws.get(0);
        }
        if (lines < 4 && priced >> lines != 0) {
            return new int[] {4, text.length()};
        }
        return new int[] {0, -1, lines};
    }

    private static boolean can(String word, int which, int[] numbers) {
        int n = numbers[which];
        switch (word) {
            case "glass":
                return which == 0 ? n >= 1 && n <= 7 : n <= numbers[0] && n <= 7;
            case "price":
                return n <= (which == 0 ? 3 : 9);
            case "wait":
                return n >= 1 && n <= 9;
            case "ran":
                return which == 0 ? n <= 3 : n >= 1 && n <= 40;
            case "quiet":
                return n >= 1 && n <= 40;
            case "span":
                return n >= 1 && n <= 30;
            default:
                return n <= 3;
        }
    }
}
