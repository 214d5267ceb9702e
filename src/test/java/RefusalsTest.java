import java.lang.reflect.InvocationTargetException;
import java.lang.reflect.Method;
import java.lang.reflect.Modifier;
import java.util.ArrayList;
import java.util.List;
import java.util.Random;

/** Every call, by whatever arguments in whatever state, answers; and the refusals that the document names. */
public final class RefusalsTest {
    private static final int MIN = Integer.MIN_VALUE;
    private static final int MAX = Integer.MAX_VALUE;
    private static final Check CHECK = new Check();

    public static void main(String[] args) throws IllegalAccessException {
        face();
        nothingThere();
        wrongNumbers();
        anyCalls(new Random(7), 40);
        CHECK.finish();
    }

    /** LANGUAGE.md, rule 1. */
    private static void face() {
        List<String> names = new ArrayList<>();
        for (Method method : SandGlasses.class.getDeclaredMethods()) {
            if (Modifier.isPublic(method.getModifiers())) {
                names.add(method.getName());
            } else {
                CHECK.due(method.getName() + " is private", Modifier.isPrivate(method.getModifiers()), true);
            }
        }
        CHECK.due("public methods", names.size(), 31);
        for (Class<?> inside : SandGlasses.class.getDeclaredClasses()) {
            for (Method method : inside.getDeclaredMethods()) {
                CHECK.due(inside.getName() + "." + method.getName(), names.contains(method.getName()), false);
            }
            CHECK.due(inside.getName() + " is static", Modifier.isStatic(inside.getModifiers()), true);
        }
    }

    private static void nothingThere() {
        SandGlasses x = new SandGlasses();
        CHECK.due("NONE", SandGlasses.NONE, -1);
        for (int sort = 0; sort < 4; sort++) {
            CHECK.due("count of a new object", x.count(sort), 0);
        }
        CHECK.due("fault of a new object", x.fault(0), 0);
        CHECK.due("place of a new object", x.fault(1), -1);
        CHECK.due("tape of a new object", x.end(1), -1);
        for (int k = -1; k <= 3; k++) {
            CHECK.due("no image", x.again(k), false);
        }
        for (int shelf : new int[] {0, 1, 2, -1, MIN, MAX}) {
            noShelf(x, shelf);
        }
        Check.tell(x, 0, -1, "glass 3 1;");
        Check.tell(x, 1, -1, "wait 1;");
        Check.tell(x, 2, -1, "quiet 3;");
        Check.tell(x, 3, -1, "span 1;");
        for (int shelf : new int[] {1, 2, -1, MIN, MAX}) {
            noShelf(x, shelf);
            CHECK.due("day", x.stop(0, shelf), -1);
            CHECK.due("day", x.state(0, shelf, 0, 0), -1);
            CHECK.due("day", x.after(0, shelf, 0), -2);
            CHECK.due("day", x.fits(0, shelf, 0, 0), -2);
            CHECK.due("log", x.fits(0, 0, shelf, 0), -2);
            CHECK.due("order", x.plan(0, shelf, 0), -1);
            CHECK.due("apart", x.apart(0, shelf), -1);
        }
    }

    private static void noShelf(SandGlasses x, int shelf) {
        CHECK.due("shelf", x.shelf(shelf, 0), -1);
        CHECK.due("stop", x.stop(shelf, 0), -1);
        CHECK.due("state", x.state(shelf, 0, 0, 0), -1);
        CHECK.due("tell", x.tell(shelf, 1, 0), -1);
        CHECK.due("purse", x.purse(shelf, 0), -1);
        CHECK.due("apart", x.apart(shelf, shelf), -1);
        CHECK.due("apart", x.apart(shelf, 0), -1);
        CHECK.due("span", x.span(shelf, 1), -1);
        CHECK.due("need", x.need(shelf, 1, false), -1);
        CHECK.due("plan", x.plan(shelf, 0, 0), -1);
        CHECK.due("wheel", x.wheel(shelf, 0), -2);
        CHECK.due("wheel", x.wheel(shelf, 1), -2);
        CHECK.due("luck", x.luck(shelf, 1, false), -1);
        CHECK.due("duel", x.duel(shelf, 0, false), -9);
        CHECK.due("chance", x.chance(shelf, 1, 1, false), -1);
        CHECK.due("fits", x.fits(shelf, 0, 0, 0), -2);
        CHECK.due("drawn", x.drawn(shelf, 0, 0, 0), -1);
        CHECK.due("times", x.times(shelf, 0), -2);
        CHECK.due("couples", x.couples(shelf, 1), -1);
        CHECK.due("crowd", x.crowd(shelf, 0), -1);
        CHECK.due("same", x.same(shelf, 1), -1);
        CHECK.due("early", x.early(shelf, 0, false), -1);
        CHECK.due("after", x.after(shelf, 0, 0), -2);
    }

    private static void wrongNumbers() {
        SandGlasses x = new SandGlasses();
        Check.tell(x, 0, -1, "glass 4 0;glass 7 0;price 1 3;");
        Check.tell(x, 1, -1, "turn 0;wait 4;");
        Check.tell(x, 2, -1, "ran 0 4;");
        Check.tell(x, 3, -1, "span 3;");
        for (int t : new int[] {0, 31, -1, MIN, MAX}) {
            CHECK.due("tell " + t, x.tell(0, t, 0), -1);
            CHECK.due("span " + t, x.span(0, t), -1);
            CHECK.due("need " + t, x.need(0, t, true), -1);
            CHECK.due("couples " + t, x.couples(0, t), -1);
            CHECK.due("same " + t, x.same(0, t), -1);
        }
        for (int m : new int[] {-1, 100, MIN, MAX}) {
            CHECK.due("purse " + m, x.purse(0, m), -1);
            CHECK.due("crowd " + m, x.crowd(0, m), -1);
            CHECK.due("early " + m, x.early(0, m, false), -1);
            CHECK.due("late " + m, x.early(0, m, true), -1);
            CHECK.due("plan " + m, x.plan(0, 0, m), -1);
            CHECK.due("luck " + m, x.luck(0, m, false), -1);
            CHECK.due("duel " + m, x.duel(0, m, false), -9);
            CHECK.due("duel first " + m, x.duel(0, m, true), -9);
            CHECK.due("chance " + m, x.chance(0, m, 0, false), -1);
            CHECK.due("chance " + m, x.chance(0, 0, m, true), -1);
            CHECK.due("drawn " + m, x.drawn(0, 1, m, 0), -1);
            CHECK.due("state " + m, x.state(0, 0, m, 0), -1);
            CHECK.due("image " + m, x.image(m), false);
            CHECK.due("again " + m, x.again(m), false);
        }
        CHECK.due("crowd 31", x.crowd(0, 31), -1);
        CHECK.due("early 21", x.early(0, 21, false), -1);
        CHECK.due("plan 2", x.plan(0, 0, 2), -1);
        CHECK.due("luck 0", x.luck(0, 0, true), -1);
        CHECK.due("luck 11", x.luck(0, 11, true), -1);
        CHECK.due("duel 5", x.duel(0, 5, false), -9);
        CHECK.due("chance p 11", x.chance(0, 11, 0, false), -1);
        CHECK.due("chance m 8", x.chance(0, 0, 8, false), -1);
        CHECK.due("drawn 61", x.drawn(0, 1, 61, 0), -1);
        CHECK.due("state 3", x.state(0, 0, 3, 0), -1);
        CHECK.due("image 3", x.image(3), false);
        CHECK.due("again 0 without image", x.again(0), false);
        for (int what : new int[] {-1, 4, 9, 12, 19, 22, 29, 32, 40, MIN, MAX}) {
            CHECK.due("state what " + what, x.state(0, 0, 1, what), -1);
            CHECK.due("drawn what " + what, x.drawn(0, 1, 9, what), -1);
        }
        for (int what : new int[] {-1, 4, 10, MIN, MAX}) {
            CHECK.due("wheel what " + what, x.wheel(0, what), -2);
        }
        for (int what : new int[] {-1, 6, MIN, MAX}) {
            CHECK.due("after what " + what, x.after(0, 0, what), -2);
        }
        for (int what : new int[] {-1, 8, 9, MIN, MAX, 10 + 8}) {
            CHECK.due("fits what " + what, x.fits(0, 0, 0, what), -2);
        }
        for (int what : new int[] {-1, 15, 19, 22, 23, 24, MIN, MAX}) {
            CHECK.due("times what " + what, x.times(0, what), -2);
        }
        for (int what : new int[] {-1, 5, 6, 7, 8, 9, 39, 40, 49, 79, 80, MIN, MAX}) {
            CHECK.due("tell what " + what, x.tell(0, 4, what), -1);
        }
    }

    private static void anyCalls(Random random, int objects) throws IllegalAccessException {
        int[] numbers = {0, 0, 0, 1, 1, 2, 3, 4, 5, 7, 8, 9, 10, 11, 20, 21, 30, 31, 50, 60, 99, -1, -2, MIN, MAX};
        String[][] texts = {
            {"", "glass 4 0;glass 7 0;price 1 3;", "glass 7 7;glass 6 1;glass 5 5;glass 7 0;price 3 0;", "glass 1 0;"},
            {"", "turn 0;turn 1;wait 4;lay 1;wait 2;turn 0;", "leak 0;wait 9;stand 1;", "wait 9;".repeat(40)},
            {"", "ran 0 4;ran 1 9;quiet 1;", "quiet 40;", "ran 3 3;"},
            {"", "span 3;span 4;", "span 30;span 30;span 30;span 1;", "span 1;"}};
        for (int i = 0; i < objects; i++) {
            SandGlasses x = new SandGlasses();
            for (int call = 0; call < 512; call++) {
                if (random.nextInt(8) == 0) {
                    int sort = random.nextInt(4);
                    Check.put(x, texts[sort][random.nextInt(4)]);
                    x.text(sort, numbers[random.nextInt(numbers.length)] % 3);
                }
                anyCall(random, x, numbers);
            }
        }
        CHECK.due("all calls answered", true, true);
    }

    private static void anyCall(Random random, SandGlasses x, int[] numbers) throws IllegalAccessException {
        Method[] methods = SandGlasses.class.getDeclaredMethods();
        Method method = methods[random.nextInt(methods.length)];
        if (!Modifier.isPublic(method.getModifiers())) {
            return;
        }
        Object[] given = new Object[method.getParameterCount()];
        for (int i = 0; i < given.length; i++) {
            boolean flag = method.getParameterTypes()[i] == boolean.class;
            int number = numbers[random.nextInt(numbers.length)];
            given[i] = flag ? (Object) random.nextBoolean() : (Object) number;
        }
        try {
            method.invoke(x, given);
        } catch (InvocationTargetException thrown) {
            CHECK.due(method.getName() + List.of(given) + " threw " + thrown.getCause(), 1, 0);
        }
    }
}
