/** All that an object was told, as one text, so that a test can see whether it stayed as it was. */
final class Look {
    private Look() {
    }

    /** The tape is told to have a length, and is seen by a text() that again() takes back: image 2 is used up by it. */
    static String at(SandGlasses x, int tape) {
        StringBuilder seen = new StringBuilder();
        seen.append("fault ").append(x.fault(0)).append(" at ").append(x.fault(1));
        seen.append(" tape ").append(x.end(tape + 1)).append(' ').append(x.end(tape));
        for (int sort = 0; sort < 4; sort++) {
            seen.append(" | ").append(x.count(sort));
            for (int number = 0; number < x.count(sort); number++) {
                lines(seen, x, sort, number);
            }
        }
        x.image(2);
        for (int sort = 0; sort < 4; sort++) {
            seen.append(" as ").append(x.text(sort, x.count(sort) == 0 ? -1 : 0));
            seen.append(' ').append(x.fault(0)).append(' ').append(x.fault(1));
            x.again(2);
        }
        return seen.toString();
    }

    private static void lines(StringBuilder seen, SandGlasses x, int sort, int number) {
        int lines = TextsTest.lines(x, sort, number);
        seen.append(" [").append(lines);
        for (int k = 0; k < lines; k++) {
            for (int what = 0; what < 3; what++) {
                seen.append(' ').append(line(x, sort, number, k, what));
            }
        }
        seen.append("]");
    }

    /** The numbers of a line: size, top, price of a glass; else two of them, or one. */
    static int line(SandGlasses x, int sort, int number, int k, int what) {
        switch (sort) {
            case 0:
                return x.shelf(number, 10 + 10 * what + k);
            case 1:
                return x.deed(number, k, what);
            case 2:
                return x.fact(number, k, what);
            default:
                return x.order(number, k);
        }
    }
}
