import java.lang.reflect.InvocationTargetException;
import java.lang.reflect.Method;
import java.util.Arrays;
import java.util.Set;
import java.util.TreeSet;

/** Each call of the face, with the least and the greatest arguments that there are: it throws what its line names, and nothing else. */
public final class WeekWheelsFaceEdges {
    private static final Object[] NUMBERS = {Integer.MIN_VALUE, -1, 0, 1, 2, 13, 100, 1000, Due.LAST, Due.LAST + 1, Integer.MAX_VALUE};
    private static final Object[] BYTES = {Integer.MIN_VALUE, 0x20202020, Integer.MAX_VALUE};
    private static final Object[] LONGS = {Long.MIN_VALUE, -1L, 0L, 24L, 202L, 242424242424L, Long.MAX_VALUE};
    private static final Object[] TRUTHS = {true, false};

    public static void main(String[] args) throws IllegalAccessException {
        Due.runAll(WeekWheelsFaceEdges.class);
    }

    /** A new object, one of which all is told, and one with twelve laws, ten houses and eight works. */
    private static WeekWheels someState(int which) {
        if (which == 0) {
            return new WeekWheels();
        }
        if (which == 1) {
            WeekWheels x = Due.busy();
            Due.feed(x, "law 1");
            return x;
        }
        WeekWheels x = Due.town("law2 1;".repeat(11) + "law24 23;" + "other3 1;".repeat(6) + "house;".repeat(10) + "still0;still99999;");
        for (int work = 0; work < 8; work++) {
            x.work(60, 4095);
        }
        return x;
    }

    private static void throwsJust(String name, String... exceptions) {
        Method method = methodOf(name);
        Set<String> declared = new TreeSet<>();
        for (Class<?> type : method.getExceptionTypes()) {
            declared.add(type.getSimpleName());
        }
        Due.same(name + " declares", declared, new TreeSet<>(Arrays.asList(exceptions)));
        Set<String> thrown = new TreeSet<>();
        for (int state = 0; state < 3; state++) {
            callWithAll(method, state, thrown);
        }
        Due.same(name + " throws", thrown, new TreeSet<>(Arrays.asList(exceptions)));
    }

    private static Method methodOf(String name) {
        for (Method method : WeekWheels.class.getMethods()) {
            if (method.getName().equals(name)) {
                return method;
            }
        }
        throw new IllegalStateException("no such call: " + name);
    }

    private static Object[] choicesOf(Class<?> type, int parameters) {
        return type == long.class ? LONGS : type == boolean.class ? TRUTHS : parameters > 4 ? BYTES : NUMBERS;
    }

    private static void callWithAll(Method method, int state, Set<String> thrown) {
        Class<?>[] types = method.getParameterTypes();
        int all = 1;
        for (Class<?> type : types) {
            all *= choicesOf(type, types.length).length;
        }
        WeekWheels x = someState(state);
        for (int choice = 0; choice < all; choice++) {
            if (choice % 8 == 7) {
                x = someState(state);
            }
            Object[] arguments = new Object[types.length];
            int rest = choice;
            for (int i = 0; i < types.length; i++) {
                Object[] choices = choicesOf(types[i], types.length);
                arguments[i] = choices[rest % choices.length];
                rest /= choices.length;
            }
            callOnce(method, x, arguments, thrown);
        }
    }

    private static void callOnce(Method method, WeekWheels x, Object[] arguments, Set<String> thrown) {
        try {
            method.invoke(x, arguments);
        } catch (InvocationTargetException e) {
            thrown.add(e.getCause().getClass().getSimpleName());
        } catch (IllegalAccessException e) {
            thrown.add(e.toString());
        }
    }

    // The public face: "public int feed(int a, int b, int c, int d, int e);"
    static void feedThrows() {
        throwsJust("feed");
    }

    // The public face: "public int calendar(int n) throws IllegalArgumentException;"
    static void calendarThrows() {
        throwsJust("calendar", Due.ARGUMENT);
    }

    // The public face: "public int wish(int n) throws IllegalArgumentException;"
    static void wishThrows() {
        throwsJust("wish", Due.ARGUMENT);
    }

    // The public face: "public int fault();"
    static void faultThrows() {
        throwsJust("fault");
    }

    // The public face: "public int told(int what) throws IllegalArgumentException;"
    static void toldThrows() {
        throwsJust("told", Due.ARGUMENT);
    }

    // The public face: "public int law(int law, int what) throws NoSuchElementException, IllegalArgumentException;"
    static void lawThrows() {
        throwsJust("law", Due.ELEMENT, Due.ARGUMENT);
    }

    // The public face: "public int slip(int house, int law) throws NoSuchElementException;"
    static void slipThrows() {
        throwsJust("slip", Due.ELEMENT);
    }

    // The public face: "public int turn(int house, int law, int by) throws NoSuchElementException, IllegalArgumentException;"
    static void turnThrows() {
        throwsJust("turn", Due.ELEMENT, Due.ARGUMENT);
    }

    // The public face: "public int turned(int day) throws IndexOutOfBoundsException;"
    static void turnedThrows() {
        throwsJust("turned", Due.DAY);
    }

    // The public face: "public int holds(int day) throws IndexOutOfBoundsException;"
    static void holdsThrows() {
        throwsJust("holds", Due.DAY);
    }

    // The public face: "public int inHouse(int day, int house) throws IndexOutOfBoundsException, NoSuchElementException;"
    static void inHouseThrows() {
        throwsJust("inHouse", Due.DAY, Due.ELEMENT);
    }

    // The public face: "public int clashes(int day) throws IndexOutOfBoundsException;"
    static void clashesThrows() {
        throwsJust("clashes", Due.DAY);
    }

    // The public face: "public boolean such(int day) throws IndexOutOfBoundsException;"
    static void suchThrows() {
        throwsJust("such", Due.DAY);
    }

    // The public face: "public int next(int day) throws IndexOutOfBoundsException;"
    static void nextThrows() {
        throwsJust("next", Due.DAY);
    }

    // The public face: "public int never(int laws) throws IllegalArgumentException;"
    static void neverThrows() {
        throwsJust("never", Due.ARGUMENT);
    }

    // The public face: "public int together(int laws) throws IllegalArgumentException;"
    static void togetherThrows() {
        throwsJust("together", Due.ARGUMENT);
    }

    // The public face: "public int most(int what) throws IllegalArgumentException;"
    static void mostThrows() {
        throwsJust("most", Due.ARGUMENT);
    }

    // The public face: "public int count(int k) throws IllegalArgumentException;"
    static void countThrows() {
        throwsJust("count", Due.ARGUMENT);
    }

    // The public face: "public int row(int day, int r) throws IndexOutOfBoundsException, IllegalArgumentException;"
    static void rowThrows() {
        throwsJust("row", Due.DAY, Due.ARGUMENT);
    }

    // The public face: "public int free(int laws, int week, int what) throws IllegalArgumentException;"
    static void freeThrows() {
        throwsJust("free", Due.ARGUMENT);
    }

    // The public face: "public int meeting(int laws) throws IllegalArgumentException;"
    static void meetingThrows() {
        throwsJust("meeting", Due.ARGUMENT);
    }

    // The public face: "public long weeks(long told, int n) throws IllegalArgumentException;"
    static void weeksThrows() {
        throwsJust("weeks", Due.ARGUMENT);
    }

    // The public face: "public int seen(int law, int ago, boolean held) throws NoSuchElementException, IllegalArgumentException;"
    static void seenThrows() {
        throwsJust("seen", Due.ELEMENT, Due.ARGUMENT);
    }

    // The public face: "public int fits(int what) throws IllegalArgumentException;"
    static void fitsThrows() {
        throwsJust("fits", Due.ARGUMENT);
    }

    // The public face: "public int look(int what) throws IllegalArgumentException;"
    static void lookThrows() {
        throwsJust("look", Due.ARGUMENT);
    }

    // The public face: "public int did(int house, int law, int day, boolean held) throws IndexOutOfBoundsException, NoSuchElementException;"
    static void didThrows() {
        throwsJust("did", Due.DAY, Due.ELEMENT);
    }

    // The public face: "public int slipped(int house, int what) throws NoSuchElementException, IllegalArgumentException;"
    static void slippedThrows() {
        throwsJust("slipped", Due.ELEMENT, Due.ARGUMENT);
    }

    // The public face: "public int forget();"
    static void forgetThrows() {
        throwsJust("forget");
    }

    // The public face: "public int right(int what) throws IllegalArgumentException;"
    static void rightThrows() {
        throwsJust("right", Due.ARGUMENT);
    }

    // The public face: "public int work(int d, int laws) throws IllegalArgumentException;"
    static void workThrows() {
        throwsJust("work", Due.ARGUMENT);
    }

    // The public face: "public int done(int work, int day) throws IndexOutOfBoundsException, NoSuchElementException;"
    static void doneThrows() {
        throwsJust("done", Due.DAY, Due.ELEMENT);
    }

    // The public face: "public int begun(int work, int day) throws IndexOutOfBoundsException, NoSuchElementException;"
    static void begunThrows() {
        throwsJust("begun", Due.DAY, Due.ELEMENT);
    }

    // The public face: "public int soonest(int day, int what) throws IndexOutOfBoundsException, IllegalArgumentException;"
    static void soonestThrows() {
        throwsJust("soonest", Due.DAY, Due.ARGUMENT);
    }

    // The public face: "public int rest();"
    static void restThrows() {
        throwsJust("rest");
    }

    // The public face: "public int thief(int a, int b) throws NoSuchElementException, IllegalArgumentException;"
    static void thiefThrows() {
        throwsJust("thief", Due.ELEMENT, Due.ARGUMENT);
    }

    // The public face: "public int guard(int a, int b) throws NoSuchElementException, IllegalArgumentException;"
    static void guardThrows() {
        throwsJust("guard", Due.ELEMENT, Due.ARGUMENT);
    }

    // The public face: "public int trade(int laws, int others) throws IllegalArgumentException;"
    static void tradeThrows() {
        throwsJust("trade", Due.ARGUMENT);
    }

    // The public face: "public int market(int day, int laws, int others) throws IndexOutOfBoundsException, IllegalArgumentException;"
    static void marketThrows() {
        throwsJust("market", Due.DAY, Due.ARGUMENT);
    }

    // The public face: "public int image();"
    static void imageThrows() {
        throwsJust("image");
    }

    // The public face: "public int restore();"
    static void restoreThrows() {
        throwsJust("restore");
    }

    // The public face: "public int status(int what);"
    static void statusThrows() {
        throwsJust("status");
    }

    // The public face: "public int sums(int what);"
    static void sumsThrows() {
        throwsJust("sums");
    }
}
