import java.util.Arrays;

/**
 * Sandglasses turned: shelves, days, logs and orders told as texts, and what can be told by turning.
 *
 * <p>The rows of TOPS that the searches go through are held as codes, three bits a glass, glass 0 lowest. What has
 * been worked out of a shelf is kept in a Book and looked up by the shelf's own numbers, so that no call has to
 * say that a shelf has changed.
 */
public final class SandGlasses {
    public static final int NONE = -1;

    /** The answer of those calls in which NONE tells something else. */
    private static final int REFUSED = -2;
    private static final int DUEL_REFUSED = -9;

    private static final int SHELVES = 0;
    private static final int DAYS = 1;
    private static final int LOGS = 2;
    private static final int ORDERS = 3;
    private static final int SORTS = 4;
    private static final int EACH = 2;
    /** How many glasses, deeds, facts, spans a text of each sort has at most. */
    private static final int[] ROOM = {4, 40, 8, 6};

    private static final int TAPE = 600;
    private static final int FED = 20;
    private static final int IMAGES = 3;
    private static final int GLASSES = 4;
    private static final int SETS = 16;
    private static final int TOPS = 8;
    private static final int DEEDS = 40;
    private static final int DRAWS = 60;
    private static final int FACT_MINUTES = 40;
    private static final int LAST_MINUTE = 99;
    private static final int LAST_T = 30;
    private static final int LAST_LUCK = 10;
    private static final int LAST_PURSE = 99;
    private static final int LAST_DONE = 90;
    private static final int LAST_EARLY = 20;
    private static final int LAST_DUEL = 4;

    private static final int WAIT = 0;
    private static final int TURN = 1;
    private static final int LAY = 2;
    private static final int STAND = 3;
    private static final int LEAK = 4;

    private static final int CODES = 4096;
    private static final int CODE_BITS = 12;
    /**
     * By glasses: how many rows of TOPS there are at EVENTS at most. Behind minute 0 such a row has a 0 in it: of four
     * glasses 4096 - 2401 rows, and the one that was told.
     */
    private static final int[] ROWS = {1, 2, 16, 170, 1696};
    /** Minutes 0 to 30 as bits. */
    private static final int MINUTES = 0x7fffffff;
    /** Far above every sum that is asked for, and far below where an int ends. */
    private static final int FAR = 1000000;
    /** By a set of glasses: the bits of a code that are theirs. */
    private static final int[] FIELDS = {
        0, 7, 56, 63, 448, 455, 504, 511, 3584, 3591, 3640, 3647, 4032, 4039, 4088, 4095
    };

    private final Told told = new Told();
    private final Told[] images = new Told[IMAGES];
    private final Reader reader = new Reader();
    private final Bench bench = new Bench();
    private final Cloth cloth = new Cloth();
    private final Steps steps = new Steps();
    private final Game game = new Game(steps);
    private final Book[] books = new Book[EACH];

    public SandGlasses() {
    }

    public int feed(int a, int b, int c, int d, int e) {
        if (told.length + FED > TAPE) {
            return NONE;
        }
        told.push(a);
        told.push(b);
        told.push(c);
        told.push(d);
        told.push(e);
        return told.length;
    }

    public int end(int n) {
        if (n < 0 || n > told.length) {
            return NONE;
        }
        told.length = n;
        return n;
    }

    public int text(int sort, int at) {
        int length = told.length;
        told.length = 0;
        told.fault = 0;
        told.faultAt = NONE;
        int number = told.numberFor(sort, at);
        if (number == NONE) {
            return REFUSED;
        }
        reader.read(sort, told.tape, length);
        told.fault = reader.fault;
        told.faultAt = reader.faultAt;
        if (reader.fault != 0) {
            return NONE;
        }
        told.keep(sort, number, reader.draft(sort));
        return number;
    }

    public int fault(int what) {
        switch (what) {
            case 0:
                return told.fault;
            case 1:
                return told.faultAt;
            default:
                return NONE;
        }
    }

    public int shelf(int shelf, int what) {
        Text s = told.find(SHELVES, shelf);
        if (s == null) {
            return NONE;
        }
        if (what == 0) {
            return s.lines;
        }
        if (isGlass(s, what, 10)) {
            return s.first[what - 10];
        }
        if (isGlass(s, what, 20)) {
            return s.second[what - 20];
        }
        if (isGlass(s, what, 30)) {
            return s.price[what - 30];
        }
        return NONE;
    }

    public int deed(int day, int k, int what) {
        return lineOf(told.find(DAYS, day), k, what);
    }

    public int stop(int shelf, int day) {
        Text s = told.find(SHELVES, shelf);
        Text d = told.find(DAYS, day);
        if (s == null || d == null) {
            return NONE;
        }
        bench.begin(s);
        return bench.play(d, d.lines);
    }

    public int state(int shelf, int day, int n, int what) {
        Text s = told.find(SHELVES, shelf);
        Text d = told.find(DAYS, day);
        if (s == null || d == null || n < 0 || n > d.lines) {
            return NONE;
        }
        bench.begin(s);
        return bench.play(d, n) == n ? bench.look(what) : NONE;
    }

    public int tell(int shelf, int t, int what) {
        Text s = told.find(SHELVES, shelf);
        if (s == null || !isT(t)) {
            return NONE;
        }
        Book book = bookOf(shelf, s);
        if (!has(book.told(), t)) {
            return NONE;
        }
        switch (what) {
            case 0:
                return book.fewestTurns(t);
            case 1:
                return book.fewestEvents(t);
            case 2:
                return book.leastPrice(s, t);
            default:
                return isGlass(s, what, 3) ? book.usedInRow(t, what - 3) : book.rowAt(t, what);
        }
    }

    public int purse(int shelf, int m) {
        Text s = told.find(SHELVES, shelf);
        if (s == null || m < 0 || m > LAST_PURSE) {
            return NONE;
        }
        Book book = bookOf(shelf, s);
        int bits = 0;
        for (int t = 1; t <= LAST_T; t++) {
            if (has(book.told(), t) && book.leastPrice(s, t) <= m) {
                bits |= 1 << t;
            }
        }
        return bits;
    }

    public int apart(int shelf, int other) {
        Text s = told.find(SHELVES, shelf);
        Text o = told.find(SHELVES, other);
        if (s == null || o == null) {
            return NONE;
        }
        return bookOf(shelf, s).told() & ~bookOf(other, o).told();
    }

    public int span(int shelf, int t) {
        Text s = told.find(SHELVES, shelf);
        if (s == null || !isT(t)) {
            return NONE;
        }
        return bookOf(shelf, s).leastSpan(t);
    }

    public int need(int shelf, int t, boolean which) {
        Text s = told.find(SHELVES, shelf);
        if (s == null || !isT(t)) {
            return NONE;
        }
        int set = bookOf(shelf, s).fewestGlasses(t);
        if (set == NONE) {
            return NONE;
        }
        return which ? set : Integer.bitCount(set);
    }

    public int order(int order, int k) {
        Text o = told.find(ORDERS, order);
        if (o == null) {
            return NONE;
        }
        if (k == NONE) {
            return o.lines;
        }
        return k >= 0 && k < o.lines ? o.first[k] : NONE;
    }

    public int plan(int shelf, int order, int k) {
        Text s = told.find(SHELVES, shelf);
        Text o = told.find(ORDERS, order);
        if (s == null || o == null || k < 0 || k > o.lines) {
            return NONE;
        }
        return bookOf(shelf, s).leastDone(o, k);
    }

    public int wheel(int shelf, int what) {
        Text s = told.find(SHELVES, shelf);
        if (s == null) {
            return REFUSED;
        }
        if (what == 0) {
            return bookOf(shelf, s).allAtOnce();
        }
        game.begin(s);
        game.goRound();
        switch (what) {
            case 1:
                return game.ahead;
            case 2:
                return game.events;
            case 3:
                return game.minutes;
            default:
                return REFUSED;
        }
    }

    public long luck(int shelf, int t, boolean under) {
        Text s = told.find(SHELVES, shelf);
        if (s == null || t < 1 || t > LAST_LUCK) {
            return NONE;
        }
        long over = bookOf(shelf, s).luckOver(t);
        long whole = 1L << (s.lines * t);
        long common = common(over, whole);
        return (under ? whole : over) / Math.max(1, common);
    }

    public int duel(int shelf, int n, boolean first) {
        Text s = told.find(SHELVES, shelf);
        if (s == null || n < 0 || n > LAST_DUEL) {
            return DUEL_REFUSED;
        }
        if (n == 0) {
            return first ? NONE : 0;
        }
        game.begin(s);
        int best = game.bestOfDuel(n);
        return first ? best % SETS : best / SETS;
    }

    public int chance(int shelf, int p, int m, boolean under) {
        Text s = told.find(SHELVES, shelf);
        if (s == null || p < 0 || p > 10 || m < 0 || m > 7) {
            return NONE;
        }
        game.begin(s);
        int over = game.chanceOver(p, m);
        int whole = 1;
        for (int g = 0; g < s.lines; g++) {
            whole *= 10;
        }
        int common = (int) common(over, whole);
        return (under ? whole : over) / Math.max(1, common);
    }

    public int fact(int log, int k, int what) {
        return lineOf(told.find(LOGS, log), k, what);
    }

    public int fits(int shelf, int day, int log, int what) {
        Text s = told.find(SHELVES, shelf);
        Text d = told.find(DAYS, day);
        Text l = told.find(LOGS, log);
        if (s == null || d == null || l == null || what < 0 || what == 8 || what == 9) {
            return REFUSED;
        }
        cloth.survey(s, d, l, what < 10 ? NONE : what - 10);
        switch (what) {
            case 0:
                return cloth.fitting;
            case 1:
                return cloth.bestMinute();
            case 2:
                return cloth.mayBeFull(s);
            case 3:
                return cloth.mayBeEmpty(s);
            default:
                return what < 10 ? cloth.sureTop(what - 4) : cloth.wanted;
        }
    }

    public int drawn(int shelf, int seed, int n, int what) {
        Text s = told.find(SHELVES, shelf);
        if (s == null || n < 0 || n > DRAWS) {
            return NONE;
        }
        bench.begin(s);
        bench.playDrawn(seed, n);
        return bench.look(what);
    }

    public int times(int shelf, int what) {
        Text s = told.find(SHELVES, shelf);
        if (s == null) {
            return REFUSED;
        }
        if (what >= 9 && what <= 13) {
            return ofShelf(s, what);
        }
        if (what >= 0 && what <= 8) {
            return ofTimes(bookOf(shelf, s), what);
        }
        if (what == 14) {
            return bookOf(shelf, s).longestStill();
        }
        return isGlass(s, what, 20) ? bookOf(shelf, s).toldBy(1 << (what - 20)) : REFUSED;
    }

    public int couples(int shelf, int t) {
        Text s = told.find(SHELVES, shelf);
        if (s == null || !isT(t)) {
            return NONE;
        }
        Book book = bookOf(shelf, s);
        int found = 0;
        for (int g = 0; g < s.lines; g++) {
            for (int h = g + 1; h < s.lines; h++) {
                if (has(book.toldBy(1 << g | 1 << h), t)) {
                    found++;
                }
            }
        }
        return found;
    }

    public int crowd(int shelf, int t) {
        Text s = told.find(SHELVES, shelf);
        if (s == null || t < 0 || t > LAST_T) {
            return NONE;
        }
        return bookOf(shelf, s).rowsWithin(1 << t);
    }

    public int same(int shelf, int t) {
        Text s = told.find(SHELVES, shelf);
        if (s == null || !isT(t)) {
            return NONE;
        }
        game.begin(s);
        return game.roundComesTo(t) ? 1 : 0;
    }

    public int early(int shelf, int k, boolean late) {
        Text s = told.find(SHELVES, shelf);
        if (s == null || k < 0 || k > LAST_EARLY) {
            return NONE;
        }
        int minutes = bookOf(shelf, s).minutesOfEvent(k);
        return late ? highest(minutes) : lowest(minutes);
    }

    public int after(int shelf, int day, int what) {
        Text s = told.find(SHELVES, shelf);
        Text d = told.find(DAYS, day);
        if (s == null || d == null) {
            return REFUSED;
        }
        bench.begin(s);
        bench.play(d, d.lines);
        switch (what) {
            case 0:
                return bench.ran;
            case 1:
                return bench.firstRan;
            case 2:
                return bench.most;
            case 3:
                return bench.idle;
            case 4:
                return bench.turns;
            case 5:
                return bench.keenest();
            default:
                return REFUSED;
        }
    }

    public int count(int sort) {
        return sort >= 0 && sort < SORTS ? told.counts[sort] : REFUSED;
    }

    public boolean image(int k) {
        if (k < 0 || k >= IMAGES) {
            return false;
        }
        if (images[k] == null) {
            images[k] = new Told();
        }
        images[k].become(told);
        return true;
    }

    public boolean again(int k) {
        if (k < 0 || k >= IMAGES || images[k] == null) {
            return false;
        }
        told.become(images[k]);
        return true;
    }

    private Book bookOf(int shelf, Text s) {
        int i = shelf == 0 ? 0 : 1;
        if (books[i] == null || !books[i].hasRoomFor(s.lines)) {
            books[i] = new Book(steps, s.lines);
        }
        books[i].open(s);
        return books[i];
    }

    /** What deed() and fact() have in common. */
    private static int lineOf(Text text, int k, int what) {
        if (text == null) {
            return REFUSED;
        }
        if (k == NONE) {
            return what == 0 ? text.lines : REFUSED;
        }
        if (k < 0 || k >= text.lines) {
            return REFUSED;
        }
        switch (what) {
            case 0:
                return text.first[k];
            case 1:
                return text.second[k];
            default:
                return REFUSED;
        }
    }

    private static int ofTimes(Book book, int what) {
        int told = book.told();
        switch (what) {
            case 0:
                return told;
            case 1:
                return book.rowsWithin(MINUTES);
            case 2:
                return lowest(told);
            case 3:
                return highest(told);
            case 4:
                return lowest(MINUTES & ~told & ~1);
            case 5:
                return longestRow(told);
            case 6:
                return book.dearest();
            case 7:
                return book.dearest() == NONE ? 0 : book.fewestTurns(book.dearest());
            default:
                return book.toldFree();
        }
    }

    private static int ofShelf(Text shelf, int what) {
        int sizes = 0;
        int sand = 0;
        int even = 0;
        int dry = 0;
        for (int g = 0; g < shelf.lines; g++) {
            int top = shelf.second[g];
            sizes = (int) common(sizes, shelf.first[g]);
            sand += top;
            even |= top * 2 == shelf.first[g] ? 1 << g : 0;
            dry = Math.max(dry, top);
        }
        switch (what) {
            case 9:
                return sizes;
            case 10:
                return sand;
            case 11:
                return even;
            case 12:
                return dry;
            default:
                return alikeCouples(shelf);
        }
    }

    private static int alikeCouples(Text shelf) {
        int found = 0;
        for (int g = 0; g < shelf.lines; g++) {
            for (int h = g + 1; h < shelf.lines; h++) {
                if (shelf.first[g] == shelf.first[h] && shelf.second[g] == shelf.second[h]) {
                    found++;
                }
            }
        }
        return found;
    }

    private static boolean isT(int t) {
        return t >= 1 && t <= LAST_T;
    }

    private static boolean isGlass(Text shelf, int what, int from) {
        return what >= from && what < from + shelf.lines;
    }

    private static boolean has(int bits, int at) {
        return (bits >> at & 1) == 1;
    }

    private static int lowest(int bits) {
        for (int at = 0; at <= LAST_T; at++) {
            if (has(bits, at)) {
                return at;
            }
        }
        return NONE;
    }

    private static int highest(int bits) {
        for (int at = LAST_T; at >= 0; at--) {
            if (has(bits, at)) {
                return at;
            }
        }
        return NONE;
    }

    private static int longestRow(int bits) {
        int longest = 0;
        int row = 0;
        for (int at = 0; at <= LAST_T; at++) {
            row = has(bits, at) ? row + 1 : 0;
            longest = Math.max(longest, row);
        }
        return longest;
    }

    /** The greatest number by which both can be divided; of 0 and another one, that one. */
    private static long common(long a, long b) {
        long x = a;
        long y = b;
        for (int i = 0; i < 200 && y != 0; i++) {
            long rest = x % y;
            x = y;
            y = rest;
        }
        return x;
    }

    /** Bottoms and tops of the glasses of a set, each the other; no field borrows, as no top is above its size. */
    private static int turned(int sizes, int tops, int set) {
        int fields = FIELDS[set & (SETS - 1)];
        return tops & ~fields | (sizes - tops) & fields;
    }

    private static int codeOf(int[] row, int glasses) {
        int code = 0;
        for (int g = 0; g < glasses && g < row.length; g++) {
            code |= row[g] << (3 * g);
        }
        return code;
    }

    /** A text as it was told: its lines, and of each up to two numbers (and of a glass the price). */
    private static final class Text {
        int lines;
        /** Size of a glass, kind of a deed, minute of a fact, length of a span. */
        final int[] first;
        /** Top of a glass, number of a deed, glass of a fact. */
        final int[] second;
        final int[] price;

        Text(int sort) {
            int room = ROOM[sort & 3];
            first = new int[room];
            second = new int[room];
            price = new int[sort == SHELVES ? room : 0];
        }

        void become(Text other) {
            lines = other.lines;
            System.arraycopy(other.first, 0, first, 0, Math.min(first.length, other.first.length));
            System.arraycopy(other.second, 0, second, 0, Math.min(second.length, other.second.length));
            System.arraycopy(other.price, 0, price, 0, Math.min(price.length, other.price.length));
        }
    }

    /** All that is told: the tape, the latest fault, the texts. */
    private static final class Told {
        final int[] tape = new int[TAPE];
        int length;
        int fault;
        int faultAt = NONE;
        final int[] counts = new int[SORTS];
        private final Text[] texts = new Text[SORTS * EACH];

        Told() {
            for (int i = 0; i < texts.length; i++) {
                texts[i] = new Text(i / EACH);
            }
        }

        void push(int four) {
            for (int shift = 24; shift >= 0; shift -= 8) {
                if (length < TAPE) {
                    tape[length] = four >>> shift & 255;
                    length++;
                }
            }
        }

        Text find(int sort, int number) {
            return number >= 0 && number < counts[sort & 3] ? texts[(sort & 3) * EACH + number] : null;
        }

        /** The number that a text of a sort gets, a further one or in the place of one. */
        int numberFor(int sort, int at) {
            if (sort < 0 || sort >= SORTS) {
                return NONE;
            }
            if (at == NONE) {
                return counts[sort] < EACH ? counts[sort] : NONE;
            }
            return at >= 0 && at < counts[sort] ? at : NONE;
        }

        void keep(int sort, int number, Text text) {
            if (sort < 0 || sort >= SORTS || number < 0 || number >= EACH) {
                return;
            }
            texts[sort * EACH + number].become(text);
            counts[sort] = Math.max(counts[sort], number + 1);
        }

        void become(Told other) {
            System.arraycopy(other.tape, 0, tape, 0, TAPE);
            length = other.length;
            fault = other.fault;
            faultAt = other.faultAt;
            System.arraycopy(other.counts, 0, counts, 0, SORTS);
            for (int i = 0; i < texts.length; i++) {
                texts[i].become(other.texts[i]);
            }
        }
    }

    /** Reads a tape as a text: a draft, or a fault and its place. */
    private static final class Reader {
        private static final int GLASS_WORD = 0;
        private static final int PRICE_WORD = 1;
        /** Behind it come the words of the other deeds, as their kinds do behind WAIT. */
        private static final int WAIT_WORD = 2;
        private static final int RAN_WORD = 7;
        private static final int QUIET_WORD = 8;
        private static final int WORDS = 10;
        private static final int[] SORT_OF = {0, 0, 1, 1, 1, 1, 1, 2, 2, 3};
        private static final int[] NUMBERS_OF = {2, 2, 1, 1, 1, 1, 1, 2, 1, 1};
        /** By a word and which of its numbers: the least and the greatest that it can be. */
        private static final int[] LEAST = {1, 0, 0, 0, 1, 0, 0, 0, 0, 0, 0, 0, 0, 0, 0, 1, 1, 0, 1, 0};
        private static final int[] GREATEST = {7, 7, 3, 9, 9, 0, 3, 0, 3, 0, 3, 0, 3, 0, 3, 40, 40, 0, 30, 0};

        int fault;
        int faultAt;
        private final Text[] drafts = new Text[SORTS];
        private final int[] prices = new int[GLASSES];
        private final int[] numbers = new int[2];
        private int[] tape;
        private int length;
        private int at;
        private int sort;
        private int lines;
        private int priced;

        Reader() {
            for (int i = 0; i < SORTS; i++) {
                drafts[i] = new Text(i);
            }
            tape = new int[0];
        }

        Text draft(int sort) {
            return drafts[sort & 3];
        }

        void read(int sort, int[] tape, int length) {
            this.sort = sort & 3;
            this.tape = tape;
            this.length = Math.min(length, tape.length);
            fault = 0;
            faultAt = NONE;
            at = 0;
            lines = 0;
            priced = 0;
            Arrays.fill(prices, 1);
            skipBlanks();
            for (int i = 0; i <= TAPE && at < this.length && fault != 1; i++) {
                readLine();
                skipBlanks();
            }
            finish();
        }

        /** A place that no text goes on from outdoes all that was found ahead of it. */
        private void breakOff() {
            fault = 1;
            faultAt = at;
        }

        private void note(int found, int place) {
            if (fault == 0) {
                fault = found;
                faultAt = place;
            }
        }

        private void readLine() {
            int word = wordHere();
            if (word == NONE) {
                breakOff();
                return;
            }
            if (word != PRICE_WORD) {
                lines++;
                if (lines > ROOM[sort]) {
                    note(3, at);
                }
            }
            at = rowEnd('a', 'z');
            for (int i = 0; i < NUMBERS_OF[word]; i++) {
                if (!readNumber(word, i)) {
                    breakOff();
                    return;
                }
            }
            skipBlanks();
            if (at >= length || tape[at] != ';') {
                breakOff();
                return;
            }
            at++;
            if (fault == 0) {
                take(word);
            }
        }

        private boolean readNumber(int word, int which) {
            skipBlanks();
            int stop = rowEnd('0', '9');
            if (stop == at || stop > at + 2) {
                return false;
            }
            int number = 0;
            for (int i = at; i < stop; i++) {
                number = number * 10 + tape[i] - '0';
            }
            boolean topAboveSize = word == GLASS_WORD && which == 1 && number > numbers[0];
            if (number < LEAST[word * 2 + which] || number > GREATEST[word * 2 + which] || topAboveSize) {
                note(2, at);
            }
            numbers[which] = number;
            at = stop;
            return true;
        }

        private void take(int word) {
            if (word == PRICE_WORD) {
                prices[numbers[0] & 3] = numbers[1];
                priced |= 1 << (numbers[0] & 3);
                return;
            }
            int line = lines - 1;
            Text draft = drafts[sort];
            if (line < 0 || line >= draft.first.length) {
                return;
            }
            switch (sort) {
                case DAYS:
                    draft.first[line] = word - WAIT_WORD;
                    draft.second[line] = numbers[0];
                    break;
                case LOGS:
                    draft.first[line] = word == RAN_WORD ? numbers[1] : numbers[0];
                    draft.second[line] = word == RAN_WORD ? numbers[0] : NONE;
                    break;
                default:
                    draft.first[line] = numbers[0];
                    draft.second[line] = word == GLASS_WORD ? numbers[1] : 0;
                    break;
            }
        }

        private void finish() {
            Text draft = drafts[sort];
            draft.lines = Math.min(lines, draft.first.length);
            if (lines < GLASSES && priced >> lines != 0) {
                note(4, length);
            }
            for (int g = 0; g < draft.price.length; g++) {
                draft.price[g] = prices[g];
            }
        }

        private void skipBlanks() {
            while (at < length && (tape[at] == 10 || tape[at] == 32)) {
                at++;
            }
        }

        /** Where the row of bytes from .. to that begins here ends. */
        private int rowEnd(int from, int to) {
            int stop = at;
            while (stop < length && tape[stop] >= from && tape[stop] <= to) {
                stop++;
            }
            return stop;
        }

        private int wordHere() {
            int stop = rowEnd('a', 'z');
            for (int word = 0; word < WORDS; word++) {
                if (SORT_OF[word] == sort && isHere(spelling(word), stop)) {
                    return word;
                }
            }
            return NONE;
        }

        private boolean isHere(String word, int stop) {
            if (stop - at != word.length()) {
                return false;
            }
            for (int i = 0; i < word.length(); i++) {
                if (tape[at + i] != word.charAt(i)) {
                    return false;
                }
            }
            return true;
        }

        private static String spelling(int word) {
            switch (word) {
                case GLASS_WORD:
                    return "glass";
                case PRICE_WORD:
                    return "price";
                case WAIT_WORD:
                    return "wait";
                case WAIT_WORD + TURN:
                    return "turn";
                case WAIT_WORD + LAY:
                    return "lay";
                case WAIT_WORD + STAND:
                    return "stand";
                case WAIT_WORD + LEAK:
                    return "leak";
                case RAN_WORD:
                    return "ran";
                case QUIET_WORD:
                    return "quiet";
                default:
                    return "span";
            }
        }
    }

    /** One glass in the course of a day. */
    private static final class Glass {
        int size;
        int top;
        boolean laid;
        int ran;

        void put(int size, int top) {
            this.size = size;
            this.top = top;
            laid = false;
            ran = 0;
        }

        boolean may(int kind) {
            switch (kind) {
                case TURN:
                case LAY:
                    return !laid;
                case STAND:
                    return laid;
                case LEAK:
                    return size > top && size > 1;
                default:
                    return false;
            }
        }

        void act(int kind) {
            switch (kind) {
                case TURN:
                    top = size - top;
                    break;
                case LAY:
                    laid = true;
                    break;
                case STAND:
                    laid = false;
                    break;
                case LEAK:
                    size--;
                    break;
                default:
                    break;
            }
        }

        boolean runs() {
            return !laid && top > 0;
        }

        /** Whether it runs out as this minute goes by. */
        boolean passMinute() {
            if (laid || top == 0) {
                return false;
            }
            top--;
            if (top > 0) {
                return false;
            }
            ran++;
            return true;
        }
    }

    /** A shelf's glasses in the course of a day, deed by deed. */
    private static final class Bench {
        int ran;
        int firstRan;
        int most;
        int idle;
        int turns;
        private final Glass[] glasses = new Glass[GLASSES];
        private int here;
        private int minute;
        private int seed;

        Bench() {
            for (int g = 0; g < GLASSES; g++) {
                glasses[g] = new Glass();
            }
        }

        void begin(Text shelf) {
            here = Math.min(shelf.lines, GLASSES);
            for (int g = 0; g < here; g++) {
                glasses[g].put(shelf.first[g], shelf.second[g]);
            }
            minute = 0;
            ran = 0;
            firstRan = NONE;
            most = 0;
            idle = 0;
            turns = 0;
        }

        /** Does the first so many deeds, as far as they can be: how many. */
        int play(Text day, int deeds) {
            for (int k = 0; k < deeds && k < day.lines; k++) {
                if (!tried(day.first[k], day.second[k])) {
                    return k;
                }
            }
            return Math.min(deeds, day.lines);
        }

        void playDrawn(int from, int times) {
            seed = from;
            for (int i = 0; i < times && i < DRAWS; i++) {
                int kind = drawnKind(draw(10));
                if (kind == WAIT) {
                    tried(WAIT, 1 + draw(9));
                } else if (here > 0) {
                    tried(kind, draw(here));
                }
            }
        }

        private static int drawnKind(int number) {
            if (number <= 2) {
                return WAIT;
            }
            if (number <= 5) {
                return TURN;
            }
            if (number == 6) {
                return LAY;
            }
            return number <= 8 ? STAND : LEAK;
        }

        private int draw(int below) {
            seed = seed * 1103515245 + 12345;
            return (seed >>> 16) % Math.max(1, below);
        }

        /** Does a deed, if it can be: whether it could. */
        private boolean tried(int kind, int number) {
            if (kind == WAIT) {
                if (minute + number > LAST_MINUTE) {
                    return false;
                }
                for (int i = 0; i < number; i++) {
                    passMinute();
                }
                return true;
            }
            if (number < 0 || number >= here || !glasses[number].may(kind)) {
                return false;
            }
            glasses[number].act(kind);
            if (kind == TURN) {
                turns++;
            }
            return true;
        }

        private void passMinute() {
            minute++;
            int running = 0;
            int out = 0;
            for (int g = 0; g < here; g++) {
                if (glasses[g].runs()) {
                    running++;
                }
                if (glasses[g].passMinute()) {
                    out++;
                }
            }
            if (running == 0) {
                idle++;
            }
            if (out > 0 && firstRan == NONE) {
                firstRan = minute;
            }
            ran += out;
            most = Math.max(most, out);
        }

        int look(int what) {
            switch (what) {
                case 0:
                    return minute;
                case 1:
                    return laidGlasses();
                case 2:
                    return ran;
                case 3:
                    return turns;
                default:
                    return lookAtGlass(what);
            }
        }

        private int laidGlasses() {
            int bits = 0;
            for (int g = 0; g < here; g++) {
                bits |= glasses[g].laid ? 1 << g : 0;
            }
            return bits;
        }

        private int lookAtGlass(int what) {
            for (int g = 0; g < here; g++) {
                if (what == 10 + g) {
                    return glasses[g].top;
                }
                if (what == 20 + g) {
                    return glasses[g].size - glasses[g].top;
                }
                if (what == 30 + g) {
                    return glasses[g].ran;
                }
            }
            return NONE;
        }

        int keenest() {
            int keen = NONE;
            int often = 0;
            for (int g = 0; g < here; g++) {
                if (glasses[g].ran > often) {
                    keen = g;
                    often = glasses[g].ran;
                }
            }
            return keen;
        }
    }

    /**
     * Which tops fit a day and a log. A glass goes its own way whatever the others do, but that the first deed that
     * can't be ends the day for all: so each glass is followed by itself, and rows of tops only put these together.
     */
    private static final class Cloth {
        private static final long UNKNOWN = -1;

        int fitting;
        /** The number of the row that was asked for. */
        int wanted;
        private final Glass glass = new Glass();
        private final int[] tops = new int[GLASSES];
        /** By a glass and its top: the first deed that can't be as far as this glass goes. */
        private final int[] stops = new int[GLASSES * TOPS];
        /** By a glass, its top and how many deeds are done: the minutes, as bits, at which it runs out. */
        private final long[] ranAt = new long[GLASSES * TOPS * (DEEDS + 1)];
        /** By a glass: its tops, as bits, in rows that fit. */
        private final int[] seen = new int[GLASSES];
        /** By a minute: how many rows that fit have anything run out then. */
        private final int[] hits = new int[FACT_MINUTES + 1];
        private final long[] mustRun = new long[GLASSES];
        private long mustRest;
        private boolean never;
        /** The minutes, as bits, at which anything runs out by the row that was looked at last. */
        private long anyRan;
        private Text shelf;
        private Text day;

        void survey(Text shelf, Text day, Text log, int kth) {
            this.shelf = shelf;
            this.day = day;
            fitting = 0;
            wanted = REFUSED;
            Arrays.fill(seen, 0);
            Arrays.fill(hits, 0);
            Arrays.fill(ranAt, UNKNOWN);
            readFacts(log);
            findStops();
            int rows = never ? 0 : 1;
            for (int g = 0; g < shelf.lines; g++) {
                rows *= shelf.first[g] + 1;
            }
            for (int row = 0; row < rows; row++) {
                layOut(row);
                if (fitsNow()) {
                    if (fitting == kth) {
                        wanted = rowNumber();
                    }
                    noteFitting();
                }
            }
        }

        private void readFacts(Text log) {
            Arrays.fill(mustRun, 0);
            mustRest = 0;
            never = false;
            for (int k = 0; k < log.lines; k++) {
                int g = log.second[k];
                long minute = 1L << log.first[k];
                if (g == NONE) {
                    mustRest |= minute;
                } else if (g >= 0 && g < shelf.lines) {
                    mustRun[g] |= minute;
                } else {
                    never = true;
                }
            }
        }

        private void findStops() {
            int shared = sharedStop();
            for (int g = 0; g < shelf.lines; g++) {
                for (int top = 0; top <= shelf.first[g] && top < TOPS; top++) {
                    stops[g * TOPS + top] = Math.min(shared, ownStop(g, top));
                }
            }
        }

        /** The first deed that can't be whatever the tops are: of no glass that is there, or too long. */
        private int sharedStop() {
            int minute = 0;
            for (int k = 0; k < day.lines; k++) {
                if (day.first[k] == WAIT) {
                    minute += day.second[k];
                    if (minute > LAST_MINUTE) {
                        return k;
                    }
                } else if (day.second[k] >= shelf.lines) {
                    return k;
                }
            }
            return day.lines;
        }

        private int ownStop(int g, int top) {
            glass.put(shelf.first[g], top);
            for (int k = 0; k < day.lines; k++) {
                if (day.first[k] == WAIT) {
                    for (int i = 0; i < day.second[k]; i++) {
                        glass.passMinute();
                    }
                } else if (day.second[k] == g) {
                    if (!glass.may(day.first[k])) {
                        return k;
                    }
                    glass.act(day.first[k]);
                }
            }
            return day.lines;
        }

        /** Minutes behind the last one that a fact can tell of are left out. */
        private long follow(int g, int top, int stop) {
            glass.put(shelf.first[g], top);
            long bits = 0;
            int minute = 0;
            for (int k = 0; k < stop && k < day.lines; k++) {
                if (day.first[k] == WAIT) {
                    for (int i = 0; i < day.second[k]; i++) {
                        minute++;
                        bits |= ranOutAt(minute);
                    }
                } else if (day.second[k] == g) {
                    glass.act(day.first[k]);
                }
            }
            for (int later = minute + 1; later <= FACT_MINUTES; later++) {
                bits |= ranOutAt(later);
            }
            return bits;
        }

        private long ranOutAt(int minute) {
            return glass.passMinute() && minute <= FACT_MINUTES ? 1L << minute : 0;
        }

        private long ranMinutes(int g, int top, int stop) {
            int at = (g * TOPS + top) * (DEEDS + 1) + stop;
            if (at < 0 || at >= ranAt.length) {
                return 0;
            }
            if (ranAt[at] == UNKNOWN) {
                ranAt[at] = follow(g, top, stop);
            }
            return ranAt[at];
        }

        /** The row-th row of tops by numbers. */
        private void layOut(int row) {
            int rest = row;
            for (int g = shelf.lines - 1; g >= 0; g--) {
                int base = Math.max(1, shelf.first[g] + 1);
                tops[g] = rest % base;
                rest /= base;
            }
        }

        private boolean fitsNow() {
            int stop = shelf.lines == 0 ? 0 : DEEDS;
            for (int g = 0; g < shelf.lines; g++) {
                stop = Math.min(stop, stops[g * TOPS + tops[g]]);
            }
            anyRan = 0;
            for (int g = 0; g < shelf.lines; g++) {
                long ran = ranMinutes(g, tops[g], stop);
                if ((ran & mustRun[g]) != mustRun[g]) {
                    return false;
                }
                anyRan |= ran;
            }
            return (anyRan & mustRest) == 0;
        }

        private void noteFitting() {
            fitting++;
            for (int g = 0; g < shelf.lines; g++) {
                seen[g] |= 1 << tops[g];
            }
            for (int minute = 1; minute <= FACT_MINUTES; minute++) {
                hits[minute] += (int) (anyRan >> minute & 1);
            }
        }

        private int rowNumber() {
            int number = 1;
            for (int g = 0; g < shelf.lines; g++) {
                number = number * 10 + tops[g];
            }
            return number;
        }

        int bestMinute() {
            int best = NONE;
            int least = fitting + 1;
            for (int minute = 1; minute <= FACT_MINUTES && fitting > 0; minute++) {
                int greater = Math.max(hits[minute], fitting - hits[minute]);
                if (greater < least) {
                    best = minute;
                    least = greater;
                }
            }
            return best;
        }

        int mayBeFull(Text shelf) {
            int bits = 0;
            for (int g = 0; g < shelf.lines; g++) {
                bits |= has(seen[g], shelf.first[g]) ? 1 << g : 0;
            }
            return bits;
        }

        int mayBeEmpty(Text shelf) {
            int bits = 0;
            for (int g = 0; g < shelf.lines; g++) {
                bits |= has(seen[g], 0) ? 1 << g : 0;
            }
            return bits;
        }

        int sureTop(int g) {
            if (g < 0 || g >= GLASSES || Integer.bitCount(seen[g]) != 1) {
                return NONE;
            }
            return lowest(seen[g]);
        }
    }

    /** Which EVENT comes next, nothing being turned: of each code worked out once. */
    private static final class Steps {
        /** By a code, for one walk at a time: 1 more than its row; all are 0 ahead of the walk and behind it. */
        final int[] rowOf = new int[CODES];
        private final int[] known = new int[CODES];

        /** The minutes up to the next EVENT above CODE_BITS, the tops then below; 0 if nothing runs. */
        int from(int tops) {
            int code = tops & (CODES - 1);
            if (known[code] == 0) {
                known[code] = workOut(code);
            }
            return known[code];
        }

        private static int workOut(int code) {
            int minutes = TOPS;
            for (int shift = 0; shift < CODE_BITS; shift += 3) {
                int top = code >> shift & 7;
                if (top > 0 && top < minutes) {
                    minutes = top;
                }
            }
            if (minutes == TOPS) {
                return 0;
            }
            int later = 0;
            for (int shift = 0; shift < CODE_BITS; shift += 3) {
                later |= Math.max(0, (code >> shift & 7) - minutes) << shift;
            }
            return minutes << CODE_BITS | later;
        }
    }

    /** What is played out of a shelf as told: all turned at each EVENT, two by turns, glasses turned by chance. */
    private static final class Game {
        /** EVENTS ahead of the round, EVENTS of it, its minutes; NONE if there is no round. */
        int ahead;
        int events;
        int minutes;
        private final Steps steps;
        private int tops;
        private int sizes;
        private int sets;
        private int glasses;

        Game(Steps steps) {
            this.steps = steps;
        }

        void begin(Text shelf) {
            glasses = shelf.lines;
            sizes = codeOf(shelf.first, glasses);
            tops = codeOf(shelf.second, glasses);
            sets = 1 << glasses;
        }

        private int allTurned(int code) {
            return steps.from(sizes - code);
        }

        private int behind(int code) {
            return allTurned(code) & (CODES - 1);
        }

        /** All glasses turned at each EVENT. Only at minute 0 can nothing be left to run. */
        void goRound() {
            ahead = NONE;
            events = NONE;
            minutes = NONE;
            if (allTurned(tops) == 0) {
                return;
            }
            events = roundLength();
            int here = tops;
            int later = tops;
            for (int i = 0; i < events; i++) {
                later = behind(later);
            }
            ahead = 0;
            for (int i = 0; i < CODES && here != later; i++) {
                here = behind(here);
                later = behind(later);
                ahead++;
            }
            minutes = 0;
            for (int i = 0; i < events; i++) {
                minutes += allTurned(here) >> CODE_BITS;
                here = behind(here);
            }
        }

        /** A mark is set anew, each time twice as far on, until the walk comes to it again. */
        private int roundLength() {
            int mark = tops;
            int here = behind(tops);
            int length = 1;
            int reach = 1;
            for (int i = 0; i < 4 * CODES && here != mark; i++) {
                if (length == reach) {
                    mark = here;
                    reach *= 2;
                    length = 0;
                }
                here = behind(here);
                length++;
            }
            return length;
        }

        boolean roundComesTo(int t) {
            int here = tops;
            int minute = 0;
            for (int i = 0; i < t && minute < t; i++) {
                int step = allTurned(here);
                if (step == 0) {
                    return false;
                }
                minute += step >> CODE_BITS;
                here = step & (CODES - 1);
            }
            return minute == t;
        }

        /** The minute at which the duel ends times SETS, and the set that the first one turns first. */
        int bestOfDuel(int times) {
            return duelFrom(tops, Math.min(times, LAST_DUEL), true);
        }

        /** The minutes that are still to come times SETS, and the set that is turned now. */
        private int duelFrom(int code, int left, boolean late) {
            int best = 0;
            int bestSet = NONE;
            for (int set = 0; set < sets; set++) {
                int step = steps.from(turned(sizes, code, set));
                int minutes = step >> CODE_BITS;
                if (step != 0 && left > 1) {
                    minutes += duelFrom(step & (CODES - 1), left - 1, !late) / SETS;
                }
                if (bestSet == NONE || (late ? minutes > best : minutes < best)) {
                    best = minutes;
                    bestSet = set;
                }
            }
            return best * SETS + Math.max(0, bestSet);
        }

        /** How likely the next event is at minute m, in parts of ten to the number of glasses. */
        int chanceOver(int p, int m) {
            int over = 0;
            for (int set = 0; set < sets; set++) {
                if (steps.from(turned(sizes, tops, set)) >> CODE_BITS == m) {
                    int weight = 1;
                    for (int g = 0; g < glasses; g++) {
                        weight *= has(set, g) ? p : 10 - p;
                    }
                    over += weight;
                }
            }
            return over;
        }
    }

    /** All rows of tops that there can be at EVENTS of some glasses, and at which minutes. */
    private static final class Walk {
        /** The rows, the one that was told first. */
        final int[] codes;
        /** By a row: the minutes up to 30, as bits, at which it can be at an EVENT. */
        final int[] minutes;
        /** By a number of EVENTS behind minute 0: the minutes up to 30, as bits, at which the last of them can be. */
        final int[] layers = new int[LAST_T + 1];
        /** By a row and a set that is turned: minutes to the next EVENT above CODE_BITS, its row below; 0: none. */
        final int[] ways;
        int rows;
        /** All sets that can be turned are below it. */
        int sets;
        private final Steps steps;
        private final int[] layer;
        private final int[] nextLayer;

        Walk(Steps steps, int glasses) {
            this.steps = steps;
            codes = new int[ROWS[Math.max(0, Math.min(GLASSES, glasses))]];
            minutes = new int[codes.length];
            ways = new int[codes.length * SETS];
            layer = new int[codes.length];
            nextLayer = new int[codes.length];
        }

        /** Glasses (bits) are those that may be turned; the codes have nothing of the others. */
        void explore(int sizes, int tops, int glasses) {
            rows = 0;
            sets = Math.min(SETS, glasses + 1);
            add(tops);
            for (int row = 0; row < rows && row < codes.length; row++) {
                for (int set = 0; set < sets; set++) {
                    int step = (set & ~glasses) == 0 ? steps.from(turned(sizes, codes[row], set)) : 0;
                    int later = step == 0 ? 0 : add(step & (CODES - 1));
                    ways[row * SETS + set] = step >> CODE_BITS << CODE_BITS | later;
                }
            }
            for (int row = 0; row < rows; row++) {
                steps.rowOf[codes[row] & (CODES - 1)] = 0;
            }
            findMinutes();
        }

        /** The row of a code, a new one if it has none. */
        private int add(int code) {
            int at = code & (CODES - 1);
            if (steps.rowOf[at] == 0 && rows < codes.length) {
                codes[rows] = at;
                rows++;
                steps.rowOf[at] = rows;
            }
            return Math.max(0, steps.rowOf[at] - 1);
        }

        private void findMinutes() {
            Arrays.fill(layers, 0);
            Arrays.fill(minutes, 0, rows, 0);
            Arrays.fill(layer, 0, rows, 0);
            layer[0] = 1;
            minutes[0] = 1;
            layers[0] = 1;
            for (int k = 1; k <= LAST_T && layers[k - 1] != 0; k++) {
                Arrays.fill(nextLayer, 0, rows, 0);
                for (int row = 0; row < rows; row++) {
                    if (layer[row] != 0) {
                        passOn(row);
                    }
                }
                for (int row = 0; row < rows; row++) {
                    layer[row] = nextLayer[row];
                    minutes[row] |= layer[row];
                    layers[k] |= layer[row];
                }
            }
        }

        private void passOn(int row) {
            for (int set = 0; set < sets; set++) {
                int way = ways[row * SETS + set];
                int next = way & (CODES - 1);
                if (way != 0 && next < rows) {
                    nextLayer[next] |= layer[row] << (way >> CODE_BITS) & MINUTES;
                }
            }
        }

        /** The minutes 1 to 30, as bits, that can be EVENTS. */
        int eventMinutes() {
            int bits = 0;
            for (int k = 1; k <= LAST_T; k++) {
                bits |= layers[k];
            }
            return bits;
        }
    }

    /** The least sums of weights by which a row has an EVENT so many minutes behind it. */
    private static final class Costs {
        /** By a set: what it costs to turn it. */
        final int[] weights = new int[SETS];
        /** By a row: what it costs to have come to its end there. */
        final int[] ends;
        private final Walk walk;
        private final int room;
        /** By minutes and a row. */
        private final int[] least;

        Costs(Walk walk) {
            this.walk = walk;
            room = walk.codes.length;
            ends = new int[room];
            least = new int[(LAST_T + 1) * room];
        }

        void workOut(int last) {
            for (int minutes = 1; minutes <= last && minutes <= LAST_T; minutes++) {
                for (int row = 0; row < walk.rows; row++) {
                    int best = FAR;
                    for (int set = 0; set < walk.sets; set++) {
                        best = Math.min(best, by(row, set, minutes));
                    }
                    least[minutes * room + row] = best;
                }
            }
        }

        int of(int row, int minutes) {
            return minutes >= 1 && minutes <= LAST_T ? least[minutes * room + row] : FAR;
        }

        /** The same, if a set is turned at once. */
        int by(int row, int set, int minutes) {
            int way = walk.ways[row * SETS + set];
            int left = minutes - (way >> CODE_BITS);
            int next = way & (CODES - 1);
            if (way == 0 || left < 0 || next >= walk.rows) {
                return FAR;
            }
            return weights[set] + (left == 0 ? ends[next] : least[left * room + next]);
        }
    }

    /** What has been worked out of one shelf as told; it holds as long as the shelf's numbers are the same. */
    private static final class Book {
        private final Walk walk;
        private final Walk part;
        private final Costs costs;
        /** By T; what there is none of is FAR. */
        private final int[] fewest = new int[LAST_T + 1];
        private final int[] cheapest = new int[LAST_T + 1];
        private final int[] spans = new int[LAST_T + 1];
        /** By a set of glasses: what they tell alone (bits), NONE as long as nobody has asked. */
        private final int[] parts = new int[SETS];
        /** By minutes and a row. */
        private final long[] luck;
        private final int[] rowSets = new int[LAST_T];
        private final int[] rowMinutes = new int[LAST_T];
        private int rowLength;
        /** The T that the row is of; 0: none. */
        private int rowT;
        private int sizes = NONE;
        private int tops;
        private int glasses;
        private int prices;
        private int told;
        private boolean turnsKnown;
        private boolean luckKnown;
        /** Whether the costs are still those of turns. */
        private boolean costsAreTurns;

        Book(Steps steps, int glasses) {
            walk = new Walk(steps, glasses);
            part = new Walk(steps, glasses - 1);
            costs = new Costs(walk);
            luck = new long[(LAST_LUCK + 1) * walk.codes.length];
        }

        boolean hasRoomFor(int glasses) {
            return walk.codes.length >= ROWS[Math.max(0, Math.min(GLASSES, glasses))];
        }

        void open(Text shelf) {
            int newSizes = codeOf(shelf.first, shelf.lines);
            int newTops = codeOf(shelf.second, shelf.lines);
            if (newSizes == sizes && newTops == tops) {
                return;
            }
            sizes = newSizes;
            tops = newTops;
            glasses = shelf.lines;
            prices = NONE;
            rowT = 0;
            turnsKnown = false;
            luckKnown = false;
            costsAreTurns = false;
            Arrays.fill(parts, NONE);
            walk.explore(sizes, tops, allGlasses());
            told = walk.eventMinutes();
        }

        private int allGlasses() {
            return (1 << glasses) - 1;
        }

        int told() {
            return told;
        }

        /** Of which T there is TELL by a set of glasses alone. */
        int toldBy(int set) {
            if (set == allGlasses()) {
                return told;
            }
            int i = set & (SETS - 1);
            if (parts[i] == NONE) {
                part.explore(sizes & FIELDS[i], tops & FIELDS[i], i);
                parts[i] = part.eventMinutes();
            }
            return parts[i];
        }

        int fewestGlasses(int t) {
            int best = NONE;
            for (int set = 1; set <= allGlasses(); set++) {
                boolean fewer = best == NONE || Integer.bitCount(set) < Integer.bitCount(best);
                if (fewer && has(toldBy(set), t)) {
                    best = set;
                }
            }
            return best;
        }

        int minutesOfEvent(int k) {
            return k >= 0 && k <= LAST_T ? walk.layers[k] : 0;
        }

        int fewestEvents(int t) {
            for (int k = 1; k <= LAST_T; k++) {
                if (has(walk.layers[k], t)) {
                    return k;
                }
            }
            return NONE;
        }

        /** How many rows can be at an EVENT at any of these minutes (bits). */
        int rowsWithin(int bits) {
            int found = 0;
            for (int row = 0; row < walk.rows; row++) {
                if ((walk.minutes[row] & bits) != 0) {
                    found++;
                }
            }
            return found;
        }

        int longestStill() {
            int longest = 0;
            for (int row = 0; row < walk.rows; row++) {
                for (int set = 0; set < walk.sets && walk.minutes[row] != 0; set++) {
                    longest = Math.max(longest, walk.ways[row * SETS + set] >> CODE_BITS);
                }
            }
            return longest;
        }

        /** All run out at once if all have the same on top, behind the turns, and not nothing. */
        int allAtOnce() {
            int oneEach = FIELDS[allGlasses() & (SETS - 1)] / 7;
            int bits = 0;
            for (int row = 0; row < walk.rows; row++) {
                for (int set = 0; set < walk.sets && walk.minutes[row] != 0; set++) {
                    int minutes = walk.ways[row * SETS + set] >> CODE_BITS;
                    if (minutes > 0 && turned(sizes, walk.codes[row], set) == minutes * oneEach) {
                        bits |= walk.minutes[row] << minutes & MINUTES;
                    }
                }
            }
            return bits;
        }

        private void knowTurns() {
            for (int set = 0; set < SETS; set++) {
                costs.weights[set] = Integer.bitCount(set);
            }
            Arrays.fill(costs.ends, 0);
            costs.workOut(LAST_T);
            costsAreTurns = true;
            turnsKnown = true;
            Arrays.fill(spans, FAR);
            for (int t = 1; t <= LAST_T; t++) {
                fewest[t] = costs.of(0, t);
            }
            for (int row = 0; row < walk.rows; row++) {
                int begin = lowest(walk.minutes[row]);
                for (int t = 1; t <= LAST_T && begin != NONE; t++) {
                    if (costs.of(row, t) < FAR) {
                        spans[t] = Math.min(spans[t], begin + t);
                    }
                }
            }
        }

        int fewestTurns(int t) {
            if (!turnsKnown) {
                knowTurns();
            }
            return fewest[t];
        }

        int leastSpan(int t) {
            if (!turnsKnown) {
                knowTurns();
            }
            return spans[t] <= LAST_T ? spans[t] : NONE;
        }

        int dearest() {
            int best = NONE;
            for (int t = 1; t <= LAST_T; t++) {
                if (has(told, t) && (best == NONE || fewestTurns(t) > fewestTurns(best))) {
                    best = t;
                }
            }
            return best;
        }

        int toldFree() {
            int bits = 0;
            for (int t = 1; t <= LAST_T; t++) {
                if (has(told, t) && fewestTurns(t) == 0) {
                    bits |= 1 << t;
                }
            }
            return bits;
        }

        int leastPrice(Text shelf, int t) {
            int asked = 0;
            for (int g = 0; g < glasses; g++) {
                asked = asked * 10 + shelf.price[g];
            }
            if (asked != prices) {
                prices = asked;
                workOutPrices(shelf);
            }
            return cheapest[t];
        }

        private void workOutPrices(Text shelf) {
            for (int set = 0; set < SETS; set++) {
                int sum = 0;
                for (int g = 0; g < glasses; g++) {
                    sum += has(set, g) ? shelf.price[g] : 0;
                }
                costs.weights[set] = sum;
            }
            Arrays.fill(costs.ends, 0);
            costsAreTurns = false;
            costs.workOut(LAST_T);
            for (int t = 1; t <= LAST_T; t++) {
                cheapest[t] = costs.of(0, t);
            }
        }

        /** The first row by numbers: ahead of each EVENT the least set from which the fewest can still be met. */
        private void findRow(int t) {
            if (rowT == t) {
                return;
            }
            if (!costsAreTurns) {
                knowTurns();
            }
            rowT = t;
            rowLength = 0;
            int row = 0;
            int minute = 0;
            for (int k = 0; k < LAST_T && minute < t && row < walk.rows; k++) {
                int set = 0;
                while (set < walk.sets - 1 && costs.by(row, set, t - minute) != costs.of(row, t - minute)) {
                    set++;
                }
                rowSets[k] = set;
                rowMinutes[k] = minute;
                rowLength++;
                int way = walk.ways[row * SETS + set];
                minute += way >> CODE_BITS;
                row = way & (CODES - 1);
            }
        }

        int usedInRow(int t, int g) {
            findRow(t);
            int used = 0;
            for (int k = 0; k < rowLength; k++) {
                used += has(rowSets[k], g) ? 1 : 0;
            }
            return used;
        }

        /** Of what 10 + k the k-th set, of 50 + k its minute. */
        int rowAt(int t, int what) {
            findRow(t);
            if (what >= 10 && what < 10 + rowLength) {
                return rowSets[what - 10];
            }
            if (what >= 50 && what < 50 + rowLength) {
                return rowMinutes[what - 50];
            }
            return NONE;
        }

        /** From the last span to the first: by a row, how many minutes the spans from there on take at least. */
        int leastDone(Text order, int spansDone) {
            costsAreTurns = false;
            Arrays.fill(costs.weights, 0);
            Arrays.fill(costs.ends, 0);
            for (int k = spansDone - 1; k >= 0 && k < order.lines; k--) {
                int length = order.first[k];
                costs.workOut(length);
                for (int row = 0; row < walk.rows; row++) {
                    costs.ends[row] = Math.min(FAR, length + costs.of(row, length));
                }
                waitForLaterEvents();
            }
            return costs.ends[0] <= LAST_DONE ? costs.ends[0] : NONE;
        }

        /** Each round lets one EVENT more go by; within LAST_DONE minutes there are no more of them than minutes. */
        private void waitForLaterEvents() {
            boolean changed = true;
            for (int round = 0; round <= LAST_DONE && changed; round++) {
                changed = false;
                for (int row = 0; row < walk.rows; row++) {
                    for (int set = 0; set < walk.sets; set++) {
                        int way = walk.ways[row * SETS + set];
                        int next = way & (CODES - 1);
                        int minutes = (way >> CODE_BITS) + (next < walk.rows ? costs.ends[next] : FAR);
                        if (way != 0 && minutes < costs.ends[row]) {
                            costs.ends[row] = minutes;
                            changed = true;
                        }
                    }
                }
            }
        }

        /** How likely minute t is an EVENT, in parts of two to the number of glasses times t. */
        long luckOver(int t) {
            if (!luckKnown) {
                for (int minutes = 1; minutes <= LAST_LUCK; minutes++) {
                    for (int row = 0; row < walk.rows; row++) {
                        luck[minutes * walk.codes.length + row] = luckOf(row, minutes);
                    }
                }
                luckKnown = true;
            }
            return t >= 1 && t <= LAST_LUCK ? luck[t * walk.codes.length] : 0;
        }

        /** A step takes a glass's share of parts for each minute, though it draws but once: the rest is made up. */
        private long luckOf(int row, int minutes) {
            long sum = 0;
            for (int set = 0; set < walk.sets; set++) {
                int way = walk.ways[row * SETS + set];
                int taken = way >> CODE_BITS;
                int next = way & (CODES - 1);
                if (way != 0 && taken <= minutes && next < walk.rows) {
                    int left = minutes - taken;
                    long share = left == 0 ? 1 : luck[left * walk.codes.length + next];
                    sum += share << (glasses * (taken - 1));
                }
            }
            return sum;
        }
    }
}
