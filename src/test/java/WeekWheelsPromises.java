import java.util.NoSuchElementException;
import java.util.concurrent.Callable;

/** Each promise of the document with ordinary inputs, its edges, and wrong inputs; worked out by hand. */
public final class WeekWheelsPromises {
    static final int LAST = 999_999_999;
    static final String DAY = "IndexOutOfBoundsException";
    static final String ELEMENT = "NoSuchElementException";
    static final String ARGUMENT = "IllegalArgumentException";
    static int promise = 0;
    static int wrong = 0;
    static int checks = 0;

    public static void main(String[] args) {
        newObject();
        feed();
        calendarTexts();
        calendarFaults();
        calendarKeepsAndForgets();
        wishTexts();
        wishFaults();
        tellings();
        wheels();
        days();
        wishes();
        sets();
        rows();
        newLaws();
        weeks();
        sights();
        deeds();
        houses();
        works();
        orders();
        thieves();
        trade();
        images();
        counts();
        System.out.println(wrong == 0 ? "all " + checks + " answers are as promised" : wrong + " answers are not as promised");
        if (wrong != 0) {
            System.exit(1);
        }
    }

    static void due(String what, Callable<Object> call, Object want) {
        checks++;
        String got;
        try {
            got = String.valueOf(call.call());
        } catch (IndexOutOfBoundsException | NoSuchElementException | IllegalArgumentException e) {
            got = e.getClass().getSimpleName();
        } catch (Exception e) {
            got = e.toString();
        }
        if (!got.equals(String.valueOf(want))) {
            wrong++;
            System.out.println("promise " + promise + ": " + what + " answered " + got + ", due is " + want);
        }
    }

    static void feed(WeekWheels x, String text) {
        int[] five = new int[5];
        for (int i = 0; i < text.length() || i % 20 != 0; i++) {
            int sign = i < text.length() ? text.charAt(i) : 0;
            five[i % 20 / 4] = five[i % 20 / 4] << 8 | sign;
            if (i % 20 == 19) {
                x.feed(five[0], five[1], five[2], five[3], five[4]);
            }
        }
    }

    static int tell(WeekWheels x, String text) {
        feed(x, text);
        return x.calendar(text.length());
    }

    static int ask(WeekWheels x, String text) {
        feed(x, text);
        return x.wish(text.length());
    }

    static WeekWheels town(String text) {
        WeekWheels x = new WeekWheels();
        if (tell(x, text) < 0) {
            throw new IllegalStateException("no such calendar: " + text);
        }
        return x;
    }

    /** What a text answers, and where its fault is. */
    static void calendarFault(String text, int answer, int place) {
        WeekWheels x = new WeekWheels();
        due("calendar of '" + text + "'", () -> tell(x, text), answer);
        due("fault of '" + text + "'", x::fault, place);
    }

    static void wishFault(WeekWheels x, String text, int answer, int place) {
        due("wish of '" + text + "'", () -> ask(x, text), answer);
        due("fault of '" + text + "'", x::fault, place);
    }

    static String many(String text, int times) {
        return text.repeat(times);
    }

    static void newObject() {
        promise = 1;
        WeekWheels x = new WeekWheels();
        due("NONE", () -> WeekWheels.NONE, -1);
        for (int what = 0; what < 6; what++) {
            int w = what;
            due("told(" + w + ")", () -> x.told(w), w < 4 ? 0 : 1);
        }
        due("such", () -> x.such(0), true);
        due("such", () -> x.such(LAST), true);
        due("next", () -> x.next(17), 17);
        due("fault", x::fault, -1);
        for (int what = 0; what < 5; what++) {
            int w = what;
            due("sums(" + w + ")", () -> x.sums(w), 0);
            due("status(" + w + ")", () -> x.status(w), w < 3 ? 0 : -1);
        }
        due("holds", () -> x.holds(0), 0);
        due("restore", x::restore, -1);
    }

    static void feed() {
        promise = 2;
        WeekWheels x = new WeekWheels();
        for (int i = 1; i <= 25; i++) {
            int fed = i;
            due("feed " + i, () -> x.feed(0x686f7573, 0x653b6c61, 0x77203220, 0x303b2020, 0x20202020), 20 * fed);
        }
        due("feed beyond 500", () -> x.feed(0, 0, 0, 0, 0), -1);
        due("bytes", () -> x.sums(4), 500);
        due("the highest byte comes first", () -> x.calendar(14), 1);
        due("the rest is gone", () -> x.sums(4), 0);
        due("house", () -> x.told(2), 1);
        due("feed", () -> x.feed(-1, -1, -1, -1, -1), 20);
        due("bytes beyond 127", () -> x.calendar(20), -9);
        due("at the first", x::fault, 0);
    }

    static void calendarTexts() {
        promise = 3;
        calendarFault("", 0, -1);
        calendarFault("   ", 0, -1);
        calendarFault("law 2 0;", 1, -1);
        calendarFault("law24 23;other2 1;house;slip0 0 23;still99999;", 1, -1);
        calendarFault("  law  0007   000006 ;  house ; ", 1, -1);
        calendarFault(many("law 2 0;", 12), 12, -1);
        calendarFault(many("law 2 0;", 13), -7, 96);
        calendarFault(many("other 2 0;", 6), 0, -1);
        calendarFault(many("other 2 0;", 7), -7, 60);
        calendarFault(many("house;", 10), 0, -1);
        calendarFault(many("house;", 11), -7, 60);
        calendarFault(many("still1;", 60), 0, -1);
        calendarFault(many("still1;", 61), -7, 420);
        calendarFault(many("still1;", 60) + "  law 2 0;", -7, 422);
        calendarFault(many("still1;", 60) + "  ", 0, -1);
        calendarFault(many("still1;", 60) + " lawn 2 0;", -9, 421);
        calendarFault(many("still1;", 60) + " ;", -9, 421);
        calendarFault(many("law23 0;", 1) + "law19 0;law17 0;law13 0;", 4, -1);
        calendarFault("law16 0;law9 0;law5 0;law7 0;", 4, -1);
        calendarFault("law16 0;law9 0;law5 0;law7 0;law11 0;", 5, -1);
        calendarFault("law16 0;law9 0;law5 0;law7 0;law13 0;", 5, -1);
        calendarFault("law16 0;law9 0;law5 0;law7 0;law23 0;", -6, 37);
        calendarFault("law23 0;law19 0;law17 0;law13 0;other2 0;  ", -6, 43);
        calendarFault("law23 0;law19 0;law17 0;law13 0;law11 0;law7 0;law5 0;law16 0;law9 0;other 21 0;", -6, 80);
    }

    static void calendarFaults() {
        promise = 3;
        calendarFault("law", -9, 3);
        calendarFault("law  ", -9, 5);
        calendarFault("law 5", -9, 5);
        calendarFault("law 5 ", -9, 6);
        calendarFault("law 5 0", -9, 7);
        calendarFault("law 5 0 law", -9, 8);
        calendarFault("law 5 0;;", -9, 8);
        calendarFault(";", -9, 0);
        calendarFault("Law 5 0;", -9, 0);
        calendarFault("laW 5 0;", -9, 0);
        calendarFault("la 5 0;", -9, 0);
        calendarFault("lawn 5 0;", -9, 0);
        calendarFault("law x;", -9, 4);
        calendarFault("law -5 0;", -9, 4);
        calendarFault("law 5,0;", -9, 5);
        calendarFault("house 5;", -9, 6);
        calendarFault("\tlaw 5 0;", -9, 0);
        calendarFault("law 1 0;", -8, 4);
        calendarFault("law 0 0;", -8, 4);
        calendarFault("law 25 24;", -8, 4);
        calendarFault("law 1", -8, 4);
        calendarFault("law 24 24;", -8, 7);
        calendarFault("law 4294967301 0;", -8, 4);
        calendarFault("law 99999999999999999999999999999999999 0;", -8, 4);
        calendarFault("other 25 0;", -8, 6);
        calendarFault("other 7 7;", -8, 8);
        calendarFault("slip 0 0 0;", -8, 5);
        calendarFault("slip 0 0 0;house;law 5 0;", -8, 5);
        calendarFault("law 5 0;house;slip 1 0 0;", -8, 19);
        calendarFault("law 5 0;house;slip 0 1 0;", -8, 21);
        calendarFault("law 5 0;house;slip 0 0 5;", -8, 23);
        calendarFault("other 5 0;house;slip 0 0 0;", -8, 23);
        calendarFault("law 5 0;house;slip 0 0 4;slip 0 0", -9, 33);
        calendarFault("still 99999;", 0, -1);
        calendarFault("still 100000;", -8, 6);
        calendarFault("still;", -9, 5);
        calendarFault("still 1;still 1;still 2;still 2;still 1;", 0, -1);
        calendarFault("still 1;still 2;still 3;still 3;", -7, 24);
        calendarFault("still 1;still 2;still 3;still x", -7, 24);
        calendarFault("law23 0;law19 0;law17 0;law13 0;law2 0;x", -9, 39);
        calendarFault("law23 0;law19 0;law17 0;law13 0;law2 0;law 2", -9, 44);
    }

    static void calendarKeepsAndForgets() {
        promise = 3;
        WeekWheels x = town("law 5 4;house;still 3;slip 0 0 2;other 3 1;");
        due("work", () -> x.work(2, 1), 0);
        due("seen", () -> x.seen(0, 0, true), 1);
        due("did", () -> x.did(0, 0, 0, true), 1);
        due("image", x::image, 1);
        due("wish", () -> ask(x, "law 0"), 1);
        feed(x, "law 2 0;");
        due("n beyond the tape", () -> x.calendar(21), ARGUMENT);
        due("n below 0", () -> x.calendar(-1), ARGUMENT);
        due("the tape stays", () -> x.sums(4), 20);
        due("a fault", () -> x.calendar(7), -9);
        due("its place", x::fault, 7);
        due("the tape is empty", () -> x.sums(4), 0);
        due("a refused text has no fault", () -> x.calendar(1), ARGUMENT);
        due("the older place", x::fault, 7);
        due("all stays: laws", () -> x.law(0, 0), 5);
        due("all stays: wheels", () -> x.slip(0, 0), 2);
        due("all stays: wish", () -> x.such(0), false);
        due("all stays: seen", () -> x.sums(0), 1);
        due("all stays: did", () -> x.sums(1), 1);
        due("all stays: works", () -> x.sums(2), 1);
        due("all stays: images", () -> x.sums(3), 1);
        due("all stays: stills", () -> x.turned(9), 8);
        due("a new one", () -> tell(x, "law 3 1;house;"), 1);
        due("no fault", x::fault, -1);
        for (int what = 0; what < 5; what++) {
            int w = what;
            due("sums(" + w + ")", () -> x.sums(w), 0);
        }
        due("no wish", () -> x.such(0), true);
        due("no slip", () -> x.slip(0, 0), 0);
        due("no still", () -> x.turned(9), 9);
        due("no others", () -> x.told(1), 0);
        due("refusals stay", () -> x.status(2), 3);
    }

    static void wishTexts() {
        promise = 4;
        WeekWheels x = town("law 5 4;law 7 6;law 4 3;house;slip 0 1 2;other 6 5;");
        for (String text : new String[] {"law 0", "law2", "many0", "many 12", "day 99 98", "day2 0", "house0 2", "town 0", "not law 0",
            "[law 0]", "law0and law1or law2", "not not not not not not law 0", "[[[[[[law 0]]]]]]", "not[not[not[law 0]]]and not law 1",
            " [ not law 0 or [ many 2 ] ] ", "[[[[[[law 0]]]]]]or[[[[[[law 0]]]]]]", "not not law 0 and not not not not not law 1"}) {
            wishFault(x, text, 1, -1);
        }
        due("a wish of 200", () -> ask(x, "law 0" + many(" ", 195)), 1);
        feed(x, "law 0" + many(" ", 196));
        due("a wish of 201", () -> x.wish(201), ARGUMENT);
        due("the tape stays", () -> x.sums(4), 220);
        due("a wish below 0", () -> x.wish(-1), ARGUMENT);
        due("now it is taken", () -> x.wish(5), 1);
        due("the tape is empty", () -> x.sums(4), 0);
        due("more than there is", () -> x.wish(1), ARGUMENT);
        due("such", () -> x.such(4), true);
        due("a fault", () -> ask(x, "law 1 law"), -9);
        due("the tape is empty", () -> x.sums(4), 0);
        due("the older wish stays", () -> x.such(4), true);
        due("the older wish stays", () -> x.such(6), false);
        due("the turn of both, 420, and 95", () -> ask(x, "day 95 0"), 1);
        due("and 48, and 5 times 13", () -> ask(x, "day 16 0 and day 9 0 and day 13 0"), 1);
        wishFault(x, "day 16 0 and day 9 0 and day 23 0", -6, 33);
        wishFault(x, "day 16 0 and day 9 0 and day 13 0 and day 11 0  ", -6, 48);
    }

    static void wishFaults() {
        promise = 5;
        WeekWheels x = town("law 5 4;law 7 6;house;other 6 5;");
        wishFault(x, "", -9, 0);
        wishFault(x, "  ", -9, 2);
        wishFault(x, "law", -9, 3);
        wishFault(x, "law ", -9, 4);
        wishFault(x, "law 2", -8, 4);
        wishFault(x, "law 99999999999999999999", -8, 4);
        wishFault(x, "law a", -9, 4);
        wishFault(x, "laws 0", -9, 0);
        wishFault(x, "0", -9, 0);
        wishFault(x, "]", -9, 0);
        wishFault(x, "[]", -9, 1);
        wishFault(x, "[law 0", -9, 6);
        wishFault(x, "[law 0 ", -9, 7);
        wishFault(x, "[law 0]]", -9, 7);
        wishFault(x, "law 0]", -9, 5);
        wishFault(x, "law 0 or", -9, 8);
        wishFault(x, "law 0 and", -9, 9);
        wishFault(x, "law 0 and and", -9, 10);
        wishFault(x, "law 0 xor law 1", -9, 6);
        wishFault(x, "law 0 orlaw 1", -9, 6);
        wishFault(x, "law 0 0", -9, 6);
        wishFault(x, "law 0;", -9, 5);
        wishFault(x, "notlaw 0", -9, 0);
        wishFault(x, "not", -9, 3);
        wishFault(x, "or", -9, 0);
        wishFault(x, "many 13", -8, 5);
        wishFault(x, "many", -9, 4);
        wishFault(x, "day 1 0", -8, 4);
        wishFault(x, "day 100 0", -8, 4);
        wishFault(x, "day 7 7", -8, 6);
        wishFault(x, "day 7", -9, 5);
        wishFault(x, "house 1 0", -8, 6);
        wishFault(x, "house 0 2", -8, 8);
        wishFault(x, "house 0", -9, 7);
        wishFault(x, "town 1", -8, 5);
        wishFault(x, "other 0", -9, 0);
        wishFault(x, "[[[[[[[law 0]]]]]]]", -7, 6);
        wishFault(x, "not not not not not not not law 0", -7, 24);
        wishFault(x, "not[not[not[ not law 0]]]", -7, 13);
        wishFault(x, "[[[[[[law 0]]]]] and [law 1 and [law 0]]]", 1, -1);
        wishFault(x, "[[[[[[law 0] and [law 1]]]]]] and not not not not not not [law 1]", -7, 58);
        wishFault(x, "day 97 0 or day 89 0 or day 83 0 or", -9, 35);
        wishFault(x, "day 97 0 or day 89 0 or day 83 0 or lax", -9, 36);
        wishFault(x, "day 97 0 or day 89 0 or day 83 0 or law 0 ", -6, 42);
        wishFault(x, "law " + (char) 233, -9, 4);
        wishFault(x, "law 0" + (char) 0, -9, 5);
        due("a calendar's fault is the latest then", () -> tell(x, "law 2 2;"), -8);
        due("fault", x::fault, 6);
        due("none with a good text", () -> ask(x, "law 1"), 1);
        due("fault", x::fault, -1);
        due("such", () -> x.such(6), true);
        wishFault(new WeekWheels(), "law 0", -8, 4);
        wishFault(new WeekWheels(), "house 0 0", -8, 6);
        wishFault(new WeekWheels(), "town 0", -8, 5);
        wishFault(new WeekWheels(), "many 0", 1, -1);
    }

    static void tellings() {
        promise = 6;
        WeekWheels x = town("law 6 1;other 5 2;house;house;other 4 0;law 4 3;still 8;still 8;still 0;house;law 6 1;");
        int[] told = {3, 2, 3, 2, 12, 60};
        for (int i = 0; i < 6; i++) {
            int what = i;
            due("told(" + i + ")", () -> x.told(what), told[i]);
        }
        due("told(-1)", () -> x.told(-1), ARGUMENT);
        due("told(6)", () -> x.told(6), ARGUMENT);
        due("turns without laws", () -> town("other 5 2;").told(4), 1);
        due("turns without laws", () -> town("other 5 2;").told(5), 5);
        promise = 7;
        due("law(0, 0)", () -> x.law(0, 0), 6);
        due("law(0, 1)", () -> x.law(0, 1), 1);
        due("law(1, 0)", () -> x.law(1, 0), 4);
        due("law(1, 1)", () -> x.law(1, 1), 3);
        due("law(2, 1)", () -> x.law(2, 1), 1);
        due("law(3, 0)", () -> x.law(3, 0), ELEMENT);
        due("law(-1, 0)", () -> x.law(-1, 0), ELEMENT);
        due("law(3, 2)", () -> x.law(3, 2), ELEMENT);
        due("law(0, 2)", () -> x.law(0, 2), ARGUMENT);
        due("law(0, -1)", () -> x.law(0, -1), ARGUMENT);
    }

    static void wheels() {
        WeekWheels x = town("law 5 4;law 7 6;house;house;slip 1 1 3;slip 0 0 4;slip 1 1 6;slip 0 0 0;");
        promise = 8;
        due("the last counts", () -> x.slip(1, 1), 6);
        due("the last counts", () -> x.slip(0, 0), 0);
        due("0 without", () -> x.slip(1, 0), 0);
        due("no house", () -> x.slip(2, 0), ELEMENT);
        due("no house", () -> x.slip(-1, 0), ELEMENT);
        due("no law", () -> x.slip(0, 2), ELEMENT);
        due("no law", () -> x.slip(0, -1), ELEMENT);
        promise = 9;
        due("turn by 1", () -> x.turn(1, 1, 1), 0);
        due("turn by 0", () -> x.turn(1, 1, 0), 0);
        due("turn by 999", () -> x.turn(0, 0, 999), 4);
        due("slip", () -> x.slip(0, 0), 4);
        due("turn by 2", () -> x.turn(0, 0, 2), 1);
        due("others stay", () -> x.slip(1, 0), 0);
        due("by 1000", () -> x.turn(0, 0, 1000), ARGUMENT);
        due("by -1", () -> x.turn(0, 0, -1), ARGUMENT);
        due("no house first", () -> x.turn(2, 0, 1000), ELEMENT);
        due("no law first", () -> x.turn(0, 2, 1000), ELEMENT);
        due("a refused turn does nothing", () -> x.slip(0, 0), 1);
    }

    static void days() {
        WeekWheels x = town("law 5 4;law 7 6;law 4 3;house;house;slip 0 1 2;other 6 5;still 10;still 12;still 99999;");
        promise = 10;
        int[][] turned = {{0, 0}, {10, 10}, {11, 10}, {12, 11}, {13, 11}, {14, 12}, {99_999, 99_997}, {100_000, 99_997}, {LAST, LAST - 3}};
        for (int[] t : turned) {
            due("turned(" + t[0] + ")", () -> x.turned(t[0]), t[1]);
        }
        due("turned(-1)", () -> x.turned(-1), DAY);
        due("turned beyond", () -> x.turned(LAST + 1), DAY);
        promise = 11;
        int[][] holds = {{0, 0}, {3, 4}, {4, 1}, {6, 2}, {7, 4}, {12, 4}, {13, 4}, {14, 0}, {15, 2}, {16, 1}, {36, 3}};
        for (int[] h : holds) {
            due("holds(" + h[0] + ")", () -> x.holds(h[0]), h[1]);
        }
        due("holds(-1)", () -> x.holds(-1), DAY);
        due("holds beyond", () -> x.holds(LAST + 1), DAY);
        promise = 12;
        due("a slipped wheel", () -> x.inHouse(4, 0), 3);
        due("a slipped wheel", () -> x.inHouse(6, 0), 0);
        due("as told", () -> x.inHouse(6, 1), 2);
        due("with stills", () -> x.inHouse(13, 0), 6);
        due("no day first", () -> x.inHouse(-1, 9), DAY);
        due("no house", () -> x.inHouse(0, 2), ELEMENT);
        due("no house", () -> x.inHouse(0, -1), ELEMENT);
        promise = 13;
        due("clashes(4)", () -> x.clashes(4), 1);
        due("clashes(5)", () -> x.clashes(5), 0);
        due("clashes(6)", () -> x.clashes(6), 1);
        due("turn", () -> x.turn(1, 0, 1), 1);
        due("clashes(4)", () -> x.clashes(4), 2);
        due("clashes(0)", () -> x.clashes(0), 0);
        due("clashes(-1)", () -> x.clashes(-1), DAY);
        due("clashes beyond", () -> x.clashes(LAST + 1), DAY);
    }

    static void wishes() {
        promise = 14;
        WeekWheels x = town("law 5 4;law 7 6;law 4 3;house;slip 0 1 2;other 6 5;still 10;");
        due("no day", () -> x.such(-1), DAY);
        due("no day", () -> x.such(LAST + 1), DAY);
        ask(x, "law 0 or law 1 and law 2");
        due("and binds more", () -> x.such(4), true);
        due("and binds more", () -> x.such(6), false);
        ask(x, "[law 0 or law 1] and not law 2");
        due("brackets", () -> x.such(6), true);
        ask(x, "not law 0 and law 1");
        due("not binds most", () -> x.such(6), true);
        due("not binds most", () -> x.such(4), false);
        ask(x, "many 2");
        due("many 2 on 34", () -> x.such(34), false);
        due("many 2 on 35", () -> x.such(35), true);
        ask(x, "day 7 4");
        due("the day itself counts, not turns", () -> x.such(11), true);
        due("the day itself counts, not turns", () -> x.such(12), false);
        ask(x, "house 0 1");
        due("in a house", () -> x.such(4), true);
        x.turn(0, 0, 1);
        x.turn(0, 1, 5);
        due("its wheel was turned on", () -> x.such(4), false);
        due("its wheel was turned on", () -> x.such(6), true);
        ask(x, "town 0");
        due("the other town", () -> x.such(5), true);
        due("the other town's wheels were still too", () -> x.such(12), true);
        due("the other town's wheels were still too", () -> x.such(11), false);
        promise = 15;
        due("next(0)", () -> x.next(0), 5);
        due("next(5)", () -> x.next(5), 5);
        due("next(6)", () -> x.next(6), 12);
        due("near the end", () -> x.next(LAST - 3), NEXT_TOWN_DAY);
        due("no day", () -> x.next(-1), DAY);
        due("no day", () -> x.next(LAST + 1), DAY);
        ask(x, "law 0 and not law 0");
        due("never", () -> x.next(0), -1);
        ask(x, "day 99 0 and day 96 95 and day 5 4");
        due("never: 3 goes into both", () -> x.next(0), -1);
        WeekWheels n = new WeekWheels();
        ask(n, "day 64 63 and day 45 44 and day 11 10");
        due("once in 31680", () -> n.next(0), 31_679);
        due("again", () -> n.next(31_680), 63_359);
        due("once more to the last day", () -> n.next(LAST - 31_680), LAST / 31_680 * 31_680 - 1);
        due("not to the last day", () -> n.next(LAST / 31_680 * 31_680), -1);
        WeekWheels y = town("law 2 0;still 99999;");
        ask(y, "law 0 and day 2 1");
        due("only behind the still", () -> y.next(0), 100_001);
        ask(n, "day 65 64");
        due("one day beyond 64", () -> n.next(0), 64);
        ask(n, "day 99 98 or day 98 97");
        due("more days beyond 64", () -> n.next(0), 97);
        due("the next", () -> n.next(98), 98);
        due("the next", () -> n.next(99), 195);
        WeekWheels z = town("law 2 0;still 5;");
        ask(z, "law 0 and day 99 5");
        due("on the last day of the turn behind the still", () -> z.next(0), 203);
        due("on the last day of the turn", () -> z.next(204), 401);
        ask(y, "law 0 and day 2 0");
        due("only ahead of the still", () -> y.next(99_998), 99_998);
        due("only ahead of the still", () -> y.next(99_999), -1);
    }

    /** The last day ahead of the end on which law (6, 5) holds behind one still. */
    static final int NEXT_TOWN_DAY = LAST - 3 + (5 - (LAST - 3 - 1) % 6 + 6) % 6 <= LAST ? LAST - 3 + (5 - (LAST - 3 - 1) % 6 + 6) % 6 : -1;

    static void sets() {
        WeekWheels x = town("law 4 1;law 6 2;law 9 5;law 5 0;law 6 5;law 4 1;other 2 0;");
        promise = 16;
        due("never of all", () -> x.never(63), 1);
        due("never without the second", () -> x.never(61), -1);
        due("never of 1, 2, 4", () -> x.never(22), 104);
        due("never of one", () -> x.never(1), -1);
        due("never of none", () -> x.never(0), -1);
        due("no law", () -> x.never(64), ARGUMENT);
        due("no law", () -> x.never(-1), ARGUMENT);
        promise = 17;
        due("together of none", () -> x.together(0), 0);
        due("together of one", () -> x.together(2), 2);
        due("together of 0 and 2", () -> x.together(5), 5);
        due("together of 0, 2, 3", () -> x.together(13), 5);
        due("together of 1 and 2", () -> x.together(6), 14);
        due("together of 1, 2, 3", () -> x.together(14), 50);
        due("never", () -> x.together(3), -1);
        due("no law", () -> x.together(64), ARGUMENT);
        due("no law", () -> x.together(Integer.MIN_VALUE), ARGUMENT);
        due("as if none was still", () -> town("law 5 4;still 2;").together(1), 4);
        promise = 18;
        due("most", () -> x.most(0), 5);
        due("most", () -> x.most(1), 61);
        due("the least of the greatest sets", () -> town("law 2 1;law 2 0;").most(1), 1);
        due("the least of the greatest sets", () -> town("law 4 1;law 4 2;law 4 1;law 4 2;").most(1), 5);
        due("most(2)", () -> x.most(2), ARGUMENT);
        due("most(-1)", () -> x.most(-1), ARGUMENT);
        promise = 19;
        WeekWheels y = town("law 2 0;law 3 0;law 4 1;still 1;");
        int[] days = {2, 7, 3, 0};
        for (int i = 0; i < days.length; i++) {
            int k = i;
            due("count(" + k + ")", () -> y.count(k), days[k]);
        }
        due("count(12)", () -> y.count(12), 0);
        due("count(13)", () -> y.count(13), ARGUMENT);
        due("count(-1)", () -> y.count(-1), ARGUMENT);
        due("all twelve", () -> town(many("law 2 0;", 12)).count(12), 1);
        due("a turn of many", () -> town("law23 0;law19 0;law17 0;law13 0;").count(0), 22 * 18 * 16 * 12);
    }

    static void rows() {
        promise = 20;
        WeekWheels x = town("law 5 4;law 4 3;");
        due("row of 1", () -> x.row(3, 1), 5);
        due("row of 3", () -> x.row(1, 3), 16);
        due("row of 4", () -> x.row(0, 4), -1);
        due("from within", () -> x.row(5, 2), 5);
        due("from within", () -> x.row(6, 2), 12);
        due("r 0", () -> x.row(0, 0), ARGUMENT);
        due("r 100", () -> x.row(0, 100), ARGUMENT);
        due("no day first", () -> x.row(-1, 0), DAY);
        due("no day", () -> x.row(LAST + 1, 1), DAY);
        WeekWheels y = town("law 4 3;still 17;other 2 0;");
        due("four only by the still", () -> y.row(0, 4), 16);
        due("four only by the still", () -> y.row(16, 4), 16);
        due("four only by the still", () -> y.row(17, 4), -1);
        WeekWheels z = town("law 24 0;still 70;");
        due("over the ends of 64", () -> z.row(49, 23), 49);
        due("with the still", () -> z.row(49, 24), 49);
        due("with the still", () -> z.row(50, 24), -1);
        WeekWheels n = new WeekWheels();
        due("without laws", () -> n.row(LAST - 98, 99), LAST - 98);
        due("beyond the last day", () -> n.row(LAST - 97, 99), -1);
        due("the last day", () -> n.row(LAST, 1), LAST);
    }

    static void newLaws() {
        promise = 21;
        WeekWheels x = town("law 4 3;law 6 1;law 5 0;");
        due("free of (4, 3) by 4", () -> x.free(1, 4, 0), 3);
        due("free of (4, 3) by 2", () -> x.free(1, 2, 1), 200);
        due("free of (4, 3) by 6", () -> x.free(1, 6, 0), 3);
        due("free of (4, 3) by 6", () -> x.free(1, 6, 1), 600);
        due("free of (4, 3) by 5", () -> x.free(1, 5, 0), 0);
        due("free of (4, 3) by 5", () -> x.free(1, 5, 1), -1);
        due("free of (4, 3) and (6, 1) by 12", () -> x.free(3, 12, 0), 8);
        due("free of (4, 3) and (6, 1)", () -> x.free(3, 0, 1), 200);
        due("free of none", () -> x.free(0, 0, 0), 299);
        due("free of none", () -> x.free(0, 0, 1), 200);
        due("free of all", () -> x.free(7, 0, 1), 1002);
        due("free of all by 24", () -> x.free(7, 24, 0), 0);
        due("week 1", () -> x.free(0, 1, 0), ARGUMENT);
        due("week 25", () -> x.free(0, 25, 0), ARGUMENT);
        due("what 2", () -> x.free(0, 2, 2), ARGUMENT);
        due("no law", () -> x.free(8, 2, 0), ARGUMENT);
        promise = 22;
        due("meeting none", () -> x.meeting(0), 200);
        due("meeting (4, 3)", () -> x.meeting(1), 201);
        due("meeting (5, 0)", () -> x.meeting(4), 500);
        due("meeting all", () -> x.meeting(7), 201);
        due("no law", () -> x.meeting(8), ARGUMENT);
        due("meeting (7, 6), (7, 5)", () -> town("law 7 6;law 7 5;").meeting(3), 200);
        due("meeting (9, 8), (9, 5)", () -> town("law 9 8;law 9 5;").meeting(3), 302);
    }

    static void weeks() {
        promise = 23;
        WeekWheels x = new WeekWheels();
        due("two", () -> x.weeks(202, 1), 1L);
        due("two of no common divisor", () -> x.weeks(203, 1), -1L);
        due("three", () -> x.weeks(40404, 1), 102L);
        due("three of 2", () -> x.weeks(20202, 1), -1L);
        due("three of 2, two may meet", () -> x.weeks(20202, 2), 1L);
        due("six", () -> x.weeks(242424242424L, 1), 102030405L);
        due("six, n 6", () -> x.weeks(242424242424L, 6), 0L);
        due("six of 2, n 2", () -> x.weeks(20202020202L, 2), -1L);
        due("six of 2, n 3", () -> x.weeks(20202020202L, 3), 10101L);
        due("the first row, not the first found", () -> x.weeks(40604, 1), 102L);
        due("(2, 0), (4, 1), (4, 3)", () -> x.weeks(20404, 1), 103L);
        due("one", () -> x.weeks(24, 1), ARGUMENT);
        due("none", () -> x.weeks(0, 1), ARGUMENT);
        due("below 0", () -> x.weeks(-202, 1), ARGUMENT);
        due("seven", () -> x.weeks(2020202020202L, 1), ARGUMENT);
        due("a week of 1", () -> x.weeks(20102, 1), ARGUMENT);
        due("a week of 25", () -> x.weeks(2502, 1), ARGUMENT);
        due("a week of 0", () -> x.weeks(20002, 1), ARGUMENT);
        due("the greatest", () -> x.weeks(Long.MAX_VALUE, 1), ARGUMENT);
        due("the least", () -> x.weeks(Long.MIN_VALUE, 1), ARGUMENT);
        due("n 0", () -> x.weeks(202, 0), ARGUMENT);
        due("n 7", () -> x.weeks(202, 7), ARGUMENT);
        due("refused", () -> x.status(2), 11);
    }

    static void sights() {
        promise = 24;
        WeekWheels x = town("law 3 2;law 4 1;still 1;");
        due("no law first", () -> x.seen(2, 10, true), ELEMENT);
        due("no law", () -> x.seen(-1, 0, true), ELEMENT);
        due("ago 10", () -> x.seen(0, 10, true), ARGUMENT);
        due("ago -1", () -> x.seen(0, -1, true), ARGUMENT);
        promise = 25;
        due("all fit", () -> x.fits(0), 12);
        due("seen", () -> x.seen(0, 9, true), 1);
        due("how many", () -> x.fits(0), 4);
        due("the first", () -> x.fits(1), 2);
        due("the last", () -> x.fits(2), 11);
        due("seen", () -> x.seen(1, 2, false), 2);
        due("how many", () -> x.fits(0), 3);
        due("the first", () -> x.fits(1), 2);
        due("the last, ahead of which a turn ends", () -> x.fits(2), 8);
        due("fits(3)", () -> x.fits(3), ARGUMENT);
        due("fits(-1)", () -> x.fits(-1), ARGUMENT);
        promise = 26;
        due("look", () -> x.look(0), 1);
        due("left", () -> x.look(1), 2);
        due("look(2)", () -> x.look(2), ARGUMENT);
        due("seen", () -> x.seen(0, 0, false), 3);
        due("none fits", () -> x.fits(0), 0);
        due("no first", () -> x.fits(1), -1);
        due("no last", () -> x.fits(2), -1);
        due("look, if none is left", () -> x.look(0), 0);
        due("none is left", () -> x.look(1), 0);
        due("the first of like laws", () -> town("law 5 1;law 5 1;law 5 2;").look(0), 0);
        due("the one that parts best", () -> town("law 5 1;law 3 1;law 9 2;").look(0), 1);
        due("without laws", () -> new WeekWheels().look(0), -1);
        due("without laws", () -> new WeekWheels().look(1), 1);
        promise = 24;
        for (int i = 4; i <= 20; i++) {
            int n = i;
            due("seen " + i, () -> x.seen(0, 0, false), n);
        }
        due("the 21st", () -> x.seen(0, 0, false), -1);
        due("a wrong one is refused all the same", () -> x.seen(0, 10, false), ARGUMENT);
        due("sums", () -> x.sums(0), 20);
    }

    static void deeds() {
        promise = 27;
        WeekWheels x = town("law 5 4;law 7 6;house;house;slip 1 0 3;still 10;");
        due("no day first", () -> x.did(9, 9, -1, true), DAY);
        due("no day first", () -> x.did(9, 9, LAST + 1, true), DAY);
        due("no house", () -> x.did(2, 0, 0, true), ELEMENT);
        due("no law", () -> x.did(0, 2, 0, true), ELEMENT);
        promise = 28;
        due("all explain nothing done", () -> x.slipped(0, 0), 12);
        due("the first", () -> x.slipped(0, 1), 0);
        due("the likeliest", () -> x.slipped(0, 2), 0);
        due("did", () -> x.did(0, 0, 11, true), 1);
        due("behind a still: 10 and 4 leaves 4", () -> x.slipped(0, 0), 1);
        due("the first", () -> x.slipped(0, 1), 4);
        due("the other house has done nothing", () -> x.slipped(1, 0), 12);
        due("did not", () -> x.did(1, 0, 1, false), 2);
        due("as told it would: law 0 slipped otherwise", () -> x.slipped(1, 0), 4);
        due("the first", () -> x.slipped(1, 1), 0);
        due("the likeliest", () -> x.slipped(1, 2), 0);
        due("did", () -> x.did(1, 1, 0, false), 3);
        due("did not", () -> x.did(1, 0, 4, false), 4);
        due("not as the town", () -> x.slipped(1, 0), 3);
        due("the first", () -> x.slipped(1, 1), 1);
        due("the likeliest of like weight is the first", () -> x.slipped(1, 2), 1);
        due("did not", () -> x.did(1, 0, 3, false), 5);
        due("the first", () -> x.slipped(1, 1), 2);
        due("4 weighs more than 2", () -> x.slipped(1, 2), 4);
        due("did", () -> x.did(1, 1, 1, true), 6);
        due("two wheels explain it, one does not", () -> x.slipped(1, 0), 0);
        due("no first", () -> x.slipped(1, 1), -1);
        due("no likeliest", () -> x.slipped(1, 2), -1);
        due("no house first", () -> x.slipped(2, 9), ELEMENT);
        due("what 3", () -> x.slipped(0, 3), ARGUMENT);
        due("what -1", () -> x.slipped(0, -1), ARGUMENT);
        promise = 27;
        for (int i = 7; i <= 20; i++) {
            int n = i;
            due("did " + i, () -> x.did(0, 0, 11, true), n);
        }
        due("the 21st", () -> x.did(0, 0, 11, true), -1);
        due("a wrong one is refused all the same", () -> x.did(0, 9, 11, true), ELEMENT);
        due("seen counts for itself", () -> x.seen(0, 0, true), 1);
        promise = 29;
        due("forget", x::forget, 21);
        due("nothing left", x::forget, 0);
        due("sums", () -> x.sums(0) + x.sums(1), 0);
        due("explained again", () -> x.slipped(1, 0), 12);
        due("fits again", () -> x.fits(0), 35);
    }

    static void houses() {
        promise = 30;
        WeekWheels x = town("law 5 4;law 7 6;" + many("house;", 5) + "slip 0 0 1;slip 1 1 2;slip 3 1 2;");
        due("two and two alike", () -> x.right(0), 3);
        due("those with the least house", () -> x.right(1), 0b01010);
        x.turn(0, 0, 4);
        due("three alike", () -> x.right(0), 2);
        due("three alike", () -> x.right(1), 0b10101);
        due("what 2", () -> x.right(2), ARGUMENT);
        due("without laws all are alike", () -> town("house;house;").right(1), 3);
        due("without houses", () -> new WeekWheels().right(0), 0);
        due("one house", () -> town("law 5 4;house;slip 0 0 3;").right(1), 1);
    }

    static void works() {
        promise = 31;
        WeekWheels x = town("law 5 4;law 4 3;law 2 0;law 2 1;still 6;");
        due("d 0", () -> x.work(0, 0), ARGUMENT);
        due("d 61", () -> x.work(61, 0), ARGUMENT);
        due("no law", () -> x.work(1, 16), ARGUMENT);
        due("no law", () -> x.work(1, -1), ARGUMENT);
        due("work 0", () -> x.work(3, 3), 0);
        due("work 1", () -> x.work(60, 0), 1);
        due("work 2", () -> x.work(1, 12), 2);
        due("work 3", () -> x.work(2, 4), 3);
        for (int i = 4; i < 8; i++) {
            int n = i;
            due("work " + i, () -> x.work(1, 0), n);
        }
        due("a ninth", () -> x.work(1, 0), -1);
        due("a wrong one is refused all the same", () -> x.work(0, 0), ARGUMENT);
        promise = 32;
        due("done", () -> x.done(0, 0), 2);
        due("done", () -> x.done(0, 1), 5);
        due("done behind the still", () -> x.done(0, 5), 7);
        due("done, nothing barred", () -> x.done(1, 5), 64);
        due("never done", () -> x.done(2, 5), -1);
        due("every other day", () -> x.done(3, 0), 3);
        due("every other day, behind the still", () -> x.done(3, 6), 10);
        due("to the last day", () -> x.done(1, LAST - 59), LAST);
        due("beyond the last day", () -> x.done(1, LAST - 58), -1);
        due("no day first", () -> x.done(9, -1), DAY);
        due("no work", () -> x.done(8, 0), ELEMENT);
        due("no work", () -> x.done(-1, 0), ELEMENT);
        promise = 33;
        due("begun at once", () -> x.begun(0, 0), 0);
        due("begun best: three in a row by the still", () -> x.begun(0, 1), 5);
        due("begun best: three in a row", () -> x.begun(0, 6), 17);
        due("begun, never done", () -> x.begun(2, 5), -1);
        due("begun by the first", () -> x.begun(1, 7), 7);
        due("begun on a free day", () -> x.begun(3, 2), 3);
        due("begun so near the end", () -> x.begun(1, LAST - 58), -1);
        due("the last that can be", () -> x.begun(1, LAST - 59), LAST - 59);
        due("no day first", () -> x.begun(9, LAST + 1), DAY);
        due("no work", () -> x.begun(8, 0), ELEMENT);
        WeekWheels y = town("law 2 0;still 10;");
        y.work(1, 1);
        due("within a turn all is barred by the still: the last of it", () -> y.begun(0, 10), 11);
        due("one more", () -> y.begun(0, 11), 12);
        due("on the last day", () -> x.done(4, LAST), LAST);
        due("on the last day", () -> x.begun(4, LAST), LAST);
        promise = 35;
        due("rest", x::rest, 8);
        due("no work", () -> x.done(0, 0), ELEMENT);
        due("none left", x::rest, 0);
        due("numbers begin anew", () -> x.work(1, 0), 0);
    }

    static void orders() {
        promise = 34;
        WeekWheels x = town("law 5 4;law 4 3;law 2 0;law 2 1;");
        due("without works: the day ahead", () -> x.soonest(7, 0), 6);
        due("without works", () -> x.soonest(0, 0), -1);
        due("without works", () -> x.soonest(0, 1), 0);
        due("no day first", () -> x.soonest(-1, 2), DAY);
        due("what 2", () -> x.soonest(0, 2), ARGUMENT);
        x.work(1, 8);
        x.work(1, 4);
        due("by number, if it is as soon", () -> x.soonest(0, 0), 1);
        due("01", () -> x.soonest(0, 1), 1);
        due("from 1: the other is sooner", () -> x.soonest(1, 0), 2);
        due("10", () -> x.soonest(1, 1), 10);
        x.work(1, 0);
        due("three", () -> x.soonest(1, 0), 3);
        due("102", () -> x.soonest(1, 1), 102);
        x.work(1, 12);
        due("one is never done", () -> x.soonest(1, 0), -1);
        due("no order", () -> x.soonest(1, 1), -1);
        x.rest();
        x.work(1, 0);
        x.work(1, 0);
        due("to the last day", () -> x.soonest(LAST - 1, 0), LAST);
        due("01", () -> x.soonest(LAST - 1, 1), 1);
        due("beyond it", () -> x.soonest(LAST, 0), -1);
        due("beyond it", () -> x.soonest(LAST, 1), -1);
        for (int i = 2; i < 8; i++) {
            x.work(1, i == 7 ? 1 : 0);
        }
        due("eight", () -> x.soonest(0, 0), 7);
        due("eight", () -> x.soonest(0, 1), 1234567);
        due("eight from 7: the last is barred on 9 and 14", () -> x.soonest(7, 1), 1234576);
        due("eight from 7", () -> x.soonest(7, 0), 14);
        WeekWheels y = town("law 2 1;law 2 0;law 5 0;law 5 1;law 5 2;law 5 3;");
        y.work(1, 1);
        y.work(1, 2);
        y.work(1, 60);
        due("all wait for the third", () -> y.soonest(5, 0), 9);
        due("so the first two come by number, though the second could be done ahead", () -> y.soonest(5, 1), 12);
        WeekWheels z = town("law 7 0;still 6;");
        z.work(1, 0);
        z.work(1, 1);
        due("done on the day behind a still", () -> z.soonest(6, 0), 7);
        due("by number", () -> z.soonest(6, 1), 1);
    }

    static void thieves() {
        WeekWheels x = town("law 4 0;law 8 0;law 2 0;law 5 1;law 8 4;still 3;");
        promise = 36;
        due("(4, 0) without (8, 0)", () -> x.thief(0, 1), 5);
        due("(8, 0) without (4, 0)", () -> x.thief(1, 0), 0);
        due("(5, 1) without (4, 0)", () -> x.thief(3, 0), 6);
        due("(8, 0) without (8, 4)", () -> x.thief(1, 4), 5);
        due("one", () -> x.thief(1, 1), ARGUMENT);
        due("no law first", () -> x.thief(5, 5), ELEMENT);
        due("no law", () -> x.thief(0, 5), ELEMENT);
        due("no law", () -> x.thief(-1, 0), ELEMENT);
        promise = 37;
        due("(4, 0) without (8, 0)", () -> x.guard(0, 1), 804);
        due("(8, 0) without (4, 0): no such day", () -> x.guard(1, 0), -1);
        due("(2, 0) without (4, 0)", () -> x.guard(2, 0), 402);
        due("(5, 1) without (4, 0)", () -> x.guard(3, 0), 501);
        due("(2, 0) without (5, 1)", () -> x.guard(2, 3), 200);
        due("a watch of a week that is neither's", () -> town("law 6 1;law 4 1;").guard(0, 1), 1207);
        due("one", () -> x.guard(1, 1), ARGUMENT);
        due("no law first", () -> x.guard(9, 9), ELEMENT);
        due("no law", () -> x.guard(0, 5), ELEMENT);
    }

    static void trade() {
        WeekWheels x = town("law 4 1;law 2 1;other 6 0;other 3 0;other 2 0;still 8;");
        promise = 38;
        due("trade of none", () -> x.trade(0, 0), 12);
        due("trade", () -> x.trade(1, 1), 7);
        due("trade", () -> x.trade(3, 2), 4);
        due("no trade", () -> x.trade(2, 4), 0);
        due("no law", () -> x.trade(4, 0), ARGUMENT);
        due("no law of the other town", () -> x.trade(0, 8), ARGUMENT);
        due("below 0", () -> x.trade(-1, 0), ARGUMENT);
        promise = 39;
        due("market", () -> x.market(0, 1, 1), 2);
        due("market", () -> x.market(5, 3, 2), 8);
        due("behind the still", () -> x.market(9, 3, 2), 9);
        due("behind the still", () -> x.market(10, 3, 2), 11);
        due("no market", () -> x.market(0, 2, 4), -1);
        due("the last day", () -> x.market(LAST, 0, 0), LAST);
        due("none to the last day", () -> x.market(LAST, 0, 4), (LAST - 1) % 2 == 0 ? -1 : LAST);
        due("none to the last day", () -> x.market(LAST, 2, 0), (LAST - 1) % 2 == 0 ? LAST : -1);
        due("no day first", () -> x.market(-1, 4, 8), DAY);
        due("no law", () -> x.market(0, 4, 0), ARGUMENT);
        due("no law of the other town", () -> x.market(0, 0, 8), ARGUMENT);
    }

    static void images() {
        promise = 40;
        WeekWheels x = town("law 5 4;law 7 6;house;slip 0 1 2;");
        x.work(3, 1);
        x.seen(0, 1, true);
        x.did(0, 1, 4, true);
        ask(x, "law 0");
        due("the first", x::image, 1);
        x.turn(0, 1, 1);
        x.rest();
        x.seen(1, 2, false);
        x.did(0, 1, 4, false);
        due("the second", x::image, 2);
        due("the third", x::image, 3);
        due("a fourth", x::image, -1);
        due("sums", () -> x.sums(3), 3);
        x.forget();
        x.work(1, 0);
        ask(x, "law 1");
        promise = 41;
        due("restore", x::restore, 2);
        due("seen", () -> x.sums(0), 2);
        due("done", () -> x.sums(1), 2);
        due("works", () -> x.sums(2), 0);
        due("wheels", () -> x.slip(0, 1), 3);
        due("the wish is no part of it", () -> x.such(6), true);
        due("restore", x::restore, 1);
        due("an image again", x::image, 2);
        due("restore", x::restore, 1);
        due("restore", x::restore, 0);
        due("wheels", () -> x.slip(0, 1), 2);
        due("seen", () -> x.sums(0), 1);
        due("fits as then", () -> x.fits(1), 0);
        due("explained as then", () -> x.slipped(0, 1), 0);
        due("the work as then", () -> x.done(0, 3), 6);
        due("none left", x::restore, -1);
        due("all stays then", () -> x.sums(2), 1);
        due("refusals are kept by no image", () -> x.status(2), 0);
        WeekWheels y = town("law 5 4;law 7 6;house;house;house;");
        y.did(2, 1, 3, true);
        y.did(1, 0, 3, false);
        y.image();
        y.forget();
        y.did(0, 0, 5, false);
        y.did(0, 0, 6, false);
        y.restore();
        due("what a house did is that house's again", () -> y.slipped(0, 0), 12);
        due("what a house did is that house's again", () -> y.slipped(1, 0), 4 + 7);
        due("what a house did is that house's again", () -> y.slipped(2, 1), 103);
    }

    static void counts() {
        promise = 42;
        WeekWheels x = town("law 5 4;house;");
        x.image();
        due("a day", () -> x.holds(-1), DAY);
        due("a day ahead of others", () -> x.row(-1, 0), DAY);
        due("a law", () -> x.law(1, 7), ELEMENT);
        due("a house", () -> x.inHouse(0, 1), ELEMENT);
        due("a work", () -> x.done(0, 0), ELEMENT);
        due("a what", () -> x.fits(9), ARGUMENT);
        due("days", () -> x.status(0), 2);
        due("elements", () -> x.status(1), 3);
        due("arguments", () -> x.status(2), 1);
        due("others", () -> x.status(3), -1);
        due("others", () -> x.status(-1), -1);
        x.restore();
        due("no image keeps it", () -> x.status(1), 3);
        due("nor a calendar", () -> tell(x, ""), 0);
        due("nor a calendar", () -> x.status(0), 2);
        promise = 43;
        WeekWheels y = town("law 5 4;house;");
        y.seen(0, 0, true);
        y.seen(0, 0, true);
        y.did(0, 0, 0, true);
        y.work(1, 0);
        y.work(1, 0);
        y.work(1, 0);
        y.image();
        y.feed(1, 2, 3, 4, 5);
        int[] sums = {2, 1, 3, 1, 20};
        for (int i = 0; i < 5; i++) {
            int what = i;
            due("sums(" + i + ")", () -> y.sums(what), sums[i]);
        }
        due("others", () -> y.sums(5), -1);
        due("others", () -> y.sums(-1), -1);
        due("nothing is refused by it", () -> y.status(2), 0);
    }
}
