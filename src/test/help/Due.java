import java.lang.reflect.InvocationTargetException;
import java.lang.reflect.Method;
import java.lang.reflect.Modifier;
import java.util.Arrays;
import java.util.Comparator;
import java.util.NoSuchElementException;

/** Does calls, and tells which answers, exceptions or states are otherwise than they are due. */
final class Due {
    static final int LAST = 999_999_999;
    static final String DAY = "IndexOutOfBoundsException";
    static final String ELEMENT = "NoSuchElementException";
    static final String ARGUMENT = "IllegalArgumentException";

    private static String test = "";
    private static int wrong = 0;
    private static int checks = 0;

    interface Maker {
        WeekWheels make();
    }

    interface Call {
        Object on(WeekWheels x);
    }

    interface NumberCall {
        Object on(WeekWheels x, int number);
    }

    /** Runs every static method of a class that takes nothing: each is a test of one sentence of the document. */
    static void runAll(Class<?> tests) throws IllegalAccessException {
        Method[] methods = tests.getDeclaredMethods();
        Arrays.sort(methods, Comparator.comparing(Method::getName));
        for (Method method : methods) {
            if (Modifier.isStatic(method.getModifiers()) && method.getParameterCount() == 0 && !method.isSynthetic()
                && method.getReturnType() == void.class) {
                test = method.getName();
                runOne(method);
            }
        }
        System.out.println(wrong == 0 ? "all " + checks + " answers are as due" : wrong + " answers are not as due");
        if (wrong != 0) {
            System.exit(1);
        }
    }

    private static void runOne(Method method) throws IllegalAccessException {
        try {
            method.invoke(null);
        } catch (InvocationTargetException e) {
            complain("ended by " + e.getCause());
        }
    }

    private static void complain(String what) {
        wrong++;
        System.out.println(test + ": " + what);
    }

    static String answer(WeekWheels x, Call call) {
        try {
            return String.valueOf(call.on(x));
        } catch (IndexOutOfBoundsException | NoSuchElementException | IllegalArgumentException e) {
            return e.getClass().getSimpleName();
        } catch (RuntimeException e) {
            return e.toString();
        }
    }

    /** The call answers (or throws) this. */
    static void due(WeekWheels x, String name, Call call, Object want) {
        same(name, answer(x, call), want);
    }

    static void same(String name, Object got, Object want) {
        checks++;
        if (!String.valueOf(got).equals(String.valueOf(want))) {
            complain(name + " answered " + got + ", due is " + want);
        }
    }

    /** The call answers this and leaves all as it was, what was refused too. */
    static void keeps(Maker maker, String name, Call call, Object want) {
        WeekWheels x = maker.make();
        due(x, name, call, want);
        WeekWheels untouched = maker.make();
        same(name + ": all that later calls show", counted(x) + shown(x), counted(untouched) + shown(untouched));
    }

    /** The call throws this, is counted once by its reason, and leaves all else as it was. */
    static void refuses(Maker maker, String name, Call call, String exception) {
        WeekWheels x = maker.make();
        WeekWheels untouched = maker.make();
        due(x, name, call, exception);
        for (int reason = 0; reason < 3; reason++) {
            int more = exception.equals(reasonOf(reason)) ? 1 : 0;
            same(name + ": status(" + reason + ")", x.status(reason), untouched.status(reason) + more);
        }
        same(name + ": all that later calls show", shown(x), shown(untouched));
    }

    /** Numbers from the least to the greatest are taken, those just beside them and the extreme ones are refused. */
    static void within(Maker maker, String name, NumberCall call, int least, int greatest, String exception) {
        for (int taken : new int[] {least, greatest}) {
            WeekWheels x = maker.make();
            String got = answer(x, y -> call.on(y, taken));
            same(name + " takes " + taken, got.endsWith("Exception") ? got : "it does", "it does");
            same(name + " of " + taken + " is no refusal", counted(x), counted(maker.make()));
        }
        for (int refused : new int[] {least - 1, greatest + 1, Integer.MIN_VALUE, Integer.MAX_VALUE}) {
            refuses(maker, name + " of " + refused, y -> call.on(y, refused), exception);
        }
    }

    private static String reasonOf(int reason) {
        return reason == 0 ? DAY : reason == 1 ? ELEMENT : ARGUMENT;
    }

    private static String counted(WeekWheels x) {
        return "refused " + x.status(0) + " " + x.status(1) + " " + x.status(2) + " ";
    }

    /** What later calls show of an object, its images too: by no more than some 350 calls, so only once of an object. */
    static String shown(WeekWheels x) {
        StringBuilder all = new StringBuilder("fault " + x.fault() + " bytes " + x.sums(4) + " told");
        for (int what = 0; what < 6; what++) {
            all.append(' ').append(x.told(what));
        }
        for (int law = 0, laws = x.told(0); law < laws; law++) {
            all.append(" law ").append(x.law(law, 0)).append(' ').append(x.law(law, 1));
        }
        all.append(shownOfNow(x));
        for (int image = 0; image < 3 && x.sums(3) > 0; image++) {
            all.append(" image left ").append(x.restore()).append(shownOfNow(x));
        }
        return all.toString();
    }

    /** What an image keeps, and the wish. */
    private static String shownOfNow(WeekWheels x) {
        StringBuilder all = new StringBuilder(" sums");
        for (int what = 0; what < 4; what++) {
            all.append(' ').append(x.sums(what));
        }
        int houses = Math.min(x.told(2), 3);
        int laws = x.told(0);
        for (int house = 0; house < houses; house++) {
            all.append(" house");
            for (int law = 0; law < laws; law++) {
                all.append(' ').append(x.slip(house, law));
            }
            all.append(" slipped ").append(x.slipped(house, 0)).append(' ').append(x.slipped(house, 1));
        }
        all.append(" wish");
        for (int day : new int[] {0, 11, 100_000}) {
            all.append(' ').append(x.turned(day)).append(' ').append(x.such(day)).append(' ').append(x.next(day));
        }
        all.append(" fits ").append(x.fits(0)).append(' ').append(x.fits(1)).append(" works");
        for (int work = 0, works = x.sums(2); work < works; work++) {
            all.append(' ').append(x.done(work, 3));
        }
        return all.append(" soonest ").append(x.soonest(3, 0)).append(' ').append(x.soonest(3, 1)).toString();
    }

    /** Feeds a text, with zeros behind it up to a number that twenty divides. */
    static void feed(WeekWheels x, String text) {
        int[] five = new int[5];
        for (int i = 0; i < text.length() || i % 20 != 0; i++) {
            int sign = i < text.length() ? text.charAt(i) : 0;
            five[i % 20 / 4] = five[i % 20 / 4] << 8 | sign;
            if (i % 20 == 19) {
                x.feed(five[0], five[1], five[2], five[3], five[4]);
            }
        }
    }

    static int tell(WeekWheels x, String text) {
        feed(x, text);
        return x.calendar(text.length());
    }

    static int ask(WeekWheels x, String text) {
        feed(x, text);
        return x.wish(text.length());
    }

    static WeekWheels town(String text) {
        WeekWheels x = new WeekWheels();
        if (tell(x, text) < 0) {
            throw new IllegalStateException("no such calendar: " + text);
        }
        return x;
    }

    /** A town of which all is told and done that a call could spoil, with an image of other wheels. */
    static WeekWheels busy() {
        WeekWheels x = town("law 5 4;law 7 6;law 4 3;house;house;slip 0 1 2;other 6 5;still 10;");
        ask(x, "law 0 or town 0");
        x.seen(0, 1, true);
        x.did(0, 1, 4, true);
        x.work(3, 1);
        x.image();
        x.work(2, 6);
        x.turn(1, 0, 3);
        x.seen(1, 9, false);
        x.did(1, 0, 999, false);
        return x;
    }

    /** What a new object answers to a calendar, and where its fault is. */
    static void calendar(String text, int answer, int place) {
        WeekWheels x = new WeekWheels();
        due(x, "calendar of '" + text + "'", y -> tell(y, text), answer);
        due(x, "fault of '" + text + "'", WeekWheels::fault, place);
    }

    /** What a town answers to a wish, and where its fault is. */
    static void wish(String town, String text, int answer, int place) {
        WeekWheels x = town(town);
        due(x, "wish of '" + text + "'", y -> ask(y, text), answer);
        due(x, "fault of '" + text + "'", WeekWheels::fault, place);
    }

    private Due() {
    }
}
