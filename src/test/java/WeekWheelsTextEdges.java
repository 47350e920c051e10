/** The document's sentences on texts that name a boundary: CALENDARS, WISHES, FAULTS, and promises 1 to 5. */
public final class WeekWheelsTextEdges {
    static final String TOWN = "law 5 4;law 7 6;house;house;other 6 5;";
    /** Sixty clauses, though but one still. */
    static final String SIXTY = "still1;".repeat(60);

    public static void main(String[] args) throws IllegalAccessException {
        Due.runAll(WeekWheelsTextEdges.class);
    }

    // The public face: "public static final int NONE = -1;"
    static void noneIsLessOne() {
        Due.same("NONE", WeekWheels.NONE, -1);
    }

    // What it is: "An object is used for at most 512 calls after it has been made; what later calls answer is free."
    static void the512thCallIsStillAnswered() {
        WeekWheels x = Due.town("law 5 4;");
        for (int call = 3; call < 512; call++) {
            x.holds(call);
        }
        Due.due(x, "the 512th call", y -> y.holds(4), 1);
        WeekWheels z = new WeekWheels();
        for (int call = 1; call < 512; call++) {
            Due.answer(z, y -> y.holds(-1));
        }
        Due.due(z, "the 512th call, behind 511 refused ones", y -> y.status(0), 511);
    }

    // Promise 1: "No LAWS; no WISH: it always holds."
    static void newObjectHasNoLaws() {
        for (int what = 0; what < 6; what++) {
            int w = what;
            Due.keeps(WeekWheels::new, "told(" + w + ")", x -> x.told(w), w < 4 ? 0 : 1);
        }
        Due.keeps(WeekWheels::new, "holds(0)", x -> x.holds(0), 0);
        Due.keeps(WeekWheels::new, "holds(LAST)", x -> x.holds(Due.LAST), 0);
        Due.refuses(WeekWheels::new, "law(0, 0)", x -> x.law(0, 0), Due.ELEMENT);
        Due.refuses(WeekWheels::new, "never(1)", x -> x.never(1), Due.ARGUMENT);
        Due.refuses(WeekWheels::new, "inHouse(0, 0)", x -> x.inHouse(0, 0), Due.ELEMENT);
        Due.refuses(WeekWheels::new, "done(0, 0)", x -> x.done(0, 0), Due.ELEMENT);
    }

    // Promise 1: "No LAWS; no WISH: it always holds."
    static void newObjectsWishAlwaysHolds() {
        Due.keeps(WeekWheels::new, "such(0)", x -> x.such(0), true);
        Due.keeps(WeekWheels::new, "such(LAST)", x -> x.such(Due.LAST), true);
        Due.keeps(WeekWheels::new, "next(0)", x -> x.next(0), 0);
        Due.keeps(WeekWheels::new, "next(LAST)", x -> x.next(Due.LAST), Due.LAST);
        Due.keeps(WeekWheels::new, "fault()", WeekWheels::fault, -1);
        for (int what = 0; what < 5; what++) {
            int w = what;
            Due.keeps(WeekWheels::new, "sums(" + w + ")", x -> x.sums(w), 0);
        }
        for (int what = 0; what < 3; what++) {
            int w = what;
            Due.keeps(WeekWheels::new, "status(" + w + ")", x -> x.status(w), 0);
        }
    }

    static WeekWheels fullTape() {
        WeekWheels x = new WeekWheels();
        Due.feed(x, "law 5 4;" + " ".repeat(491) + "?");
        return x;
    }

    // Promise 2: "Twenty bytes come on the TAPE, of each number the highest first: how many there are; NONE, doing nothing,
    // if there would be more than 500."
    static void feedUpTo500() {
        WeekWheels x = new WeekWheels();
        for (int i = 1; i <= 25; i++) {
            Due.due(x, "feed the " + i + "th time", y -> y.feed(0x20202020, 0, -1, Integer.MIN_VALUE, Integer.MAX_VALUE), 20 * i);
            Due.due(x, "sums(4)", y -> y.sums(4), 20 * i);
        }
        Due.due(x, "feed beyond 500", y -> y.feed(0, 0, 0, 0, 0), -1);
        Due.due(x, "sums(4)", y -> y.sums(4), 500);
        Due.due(x, "feed beyond 500 again", y -> y.feed(0, 0, 0, 0, 0), -1);
        Due.due(x, "calendar(4): blanks", y -> y.calendar(4), 0);
        Due.due(x, "feed the empty tape", y -> y.feed(0, 0, 0, 0, 0), 20);
    }

    // Promise 2: "NONE, doing nothing, if there would be more than 500."
    static void feedBeyond500DoesNothing() {
        Due.keeps(WeekWheelsTextEdges::fullTape, "feed beyond 500", x -> x.feed(1, 2, 3, 4, 5), -1);
        WeekWheels x = fullTape();
        x.feed(0x686f7573, 0x653b686f, 0x7573653b, 0x20202020, 0x20202020);
        Due.due(x, "calendar(500): the bytes are those of before", y -> y.calendar(500), -9);
        Due.due(x, "fault()", WeekWheels::fault, 499);
        WeekWheels z = fullTape();
        z.feed(0x686f7573, 0x653b686f, 0x7573653b, 0x20202020, 0x20202020);
        Due.due(z, "calendar(499): the bytes are those of before", y -> y.calendar(499), 1);
        Due.due(z, "told(2)", y -> y.told(2), 0);
    }

    // Promise 2: "of each number the highest first"
    static void feedTakesTheHighestByteFirst() {
        WeekWheels x = new WeekWheels();
        x.feed('l' << 24 | 'a' << 16 | 'w' << 8 | ' ', '9' << 24 | ' ' << 16 | '7' << 8 | ';',
            'h' << 24 | 'o' << 16 | 'u' << 8 | 's', 'e' << 24 | ';' << 16 | ' ' << 8 | ' ', 0x202020ff);
        Due.due(x, "calendar(20): the last byte is 255", y -> y.calendar(20), -9);
        Due.due(x, "fault()", WeekWheels::fault, 19);
        x.feed('l' << 24 | 'a' << 16 | 'w' << 8 | ' ', '9' << 24 | ' ' << 16 | '7' << 8 | ';',
            'h' << 24 | 'o' << 16 | 'u' << 8 | 's', 'e' << 24 | ';' << 16 | ' ' << 8 | ' ', 0xff202020);
        Due.due(x, "calendar(20): a number below 0, by its highest byte", y -> y.calendar(20), -9);
        Due.due(x, "fault()", WeekWheels::fault, 16);
        x.feed('l' << 24 | 'a' << 16 | 'w' << 8 | ' ', '9' << 24 | ' ' << 16 | '7' << 8 | ';',
            'h' << 24 | 'o' << 16 | 'u' << 8 | 's', 'e' << 24 | ';' << 16 | ' ' << 8 | ' ', 0x202020ff);
        Due.due(x, "calendar(19)", y -> y.calendar(19), 1);
        Due.due(x, "law(0, 0)", y -> y.law(0, 0), 9);
        Due.due(x, "law(0, 1)", y -> y.law(0, 1), 7);
        Due.due(x, "told(2)", y -> y.told(2), 1);
    }

    // Promise 3, by Terms: "A CALENDAR is a text of up to 500 bytes: { CLAUSE ";" }, at most 60."
    static void calendarOfNoByteAndOf500() {
        Due.calendar("", 0, -1);
        Due.calendar(" ", 0, -1);
        Due.calendar(" ".repeat(500), 0, -1);
        Due.calendar(" ".repeat(492) + "law 2 1;", 1, -1);
        Due.calendar(" ".repeat(493) + "law 2 1", -9, 500);
        Due.calendar(" ".repeat(494) + "law 2 ", -9, 500);
        Due.calendar("law 2 1;" + " ".repeat(491) + ";", -9, 499);
        Due.calendar("law " + "0".repeat(493) + "2 1", -9, 500);
        Due.calendar("law " + "0".repeat(492) + "2 1;", 1, -1);
        WeekWheels x = fullTape();
        Due.due(x, "calendar(501)", y -> y.calendar(501), Due.ARGUMENT);
        Due.due(x, "calendar(499)", y -> y.calendar(499), 1);
    }

    // Promise 3, by Terms: "{ CLAUSE ";" }, at most 60."
    static void calendarOfSixtyClauses() {
        Due.calendar(SIXTY, 0, -1);
        Due.calendar(SIXTY + "  ", 0, -1);
        Due.calendar("law2 0;".repeat(12) + "other2 0;".repeat(6) + "house;".repeat(10) + "still7;".repeat(32), 12, -1);
        Due.calendar("law2 0;house;" + "still7;".repeat(57) + "slip0 0 1;", 1, -1);
        Due.calendar(SIXTY + ";", -9, 420);
        Due.calendar("still1;".repeat(59) + "still1", -9, 419);
        for (String clause : new String[] {"law 2 0;", "other 2 0;", "house;", "slip 0 0 0;", "still 1;", "law", "slip", "house?"}) {
            Due.calendar(SIXTY + clause, -7, 420);
            Due.calendar(SIXTY + "   " + clause, -7, 423);
        }
    }

    // Promise 3, by Terms: "CLAUSE: "law" W D (LAWS, numbered from 0 on, 12 at most: WEEK W, 2 to 24, DAY D of it, 0 to W less 1)"
    static void lawsWeekIs2To24() {
        Due.calendar("law 2 0;", 1, -1);
        Due.calendar("law 24 0;", 1, -1);
        Due.calendar("law 1 0;", -8, 4);
        Due.calendar("law 0 0;", -8, 4);
        Due.calendar("law 25 0;", -8, 4);
        Due.calendar("law 240;", -8, 4);
        Due.keeps(() -> Due.town("law 2 0;law 24 0;"), "law(0, 0)", x -> x.law(0, 0), 2);
        Due.keeps(() -> Due.town("law 2 0;law 24 0;"), "law(1, 0)", x -> x.law(1, 0), 24);
    }

    // Promise 3, by Terms: "CLAUSE: "law" W D (LAWS, numbered from 0 on, 12 at most: WEEK W, 2 to 24, DAY D of it, 0 to W less 1)"
    static void lawsDayIs0ToWLess1() {
        for (int week = 2; week <= 24; week++) {
            String text = "law " + week + " ";
            int w = week;
            Due.calendar(text + "0;", 1, -1);
            Due.calendar(text + (week - 1) + ";", 1, -1);
            Due.calendar(text + week + ";", -8, text.length());
            Due.same("law(0, 1) of " + text, Due.town(text + (w - 1) + ";").law(0, 1), w - 1);
        }
        Due.calendar("law 2 99999999999999999999;", -8, 6);
    }

    // Promise 3, by Terms: "LAWS, numbered from 0 on, 12 at most"
    static void lawsAre12AtMost() {
        String eleven = "law2 1;".repeat(11);
        Due.calendar(eleven + "law24 23;", 12, -1);
        Due.calendar(eleven + "law24 23; law2 0;", -7, 87);
        Due.calendar(eleven + "law24 23; law", -7, 87);
        Due.calendar(eleven + "law24 23; law 99", -7, 87);
        WeekWheels x = Due.town(eleven + "law24 23;");
        Due.due(x, "told(0)", y -> y.told(0), 12);
        Due.due(x, "law(0, 0)", y -> y.law(0, 0), 2);
        Due.due(x, "law(11, 0)", y -> y.law(11, 0), 24);
        Due.due(x, "law(11, 1)", y -> y.law(11, 1), 23);
        Due.due(x, "law(12, 0)", y -> y.law(12, 0), Due.ELEMENT);
        Due.due(x, "holds(23)", y -> y.holds(23), 4095);
    }

    // Promise 3, by Terms: ""other" W D (LAWS of the other town, likewise, 6)"
    static void othersLikewise() {
        Due.calendar("other 2 0;", 0, -1);
        Due.calendar("other 2 1;", 0, -1);
        Due.calendar("other 2 2;", -8, 8);
        Due.calendar("other 24 23;", 0, -1);
        Due.calendar("other 24 24;", -8, 9);
        Due.calendar("other 1 0;", -8, 6);
        Due.calendar("other 25 0;", -8, 6);
        String six = "other2 1;".repeat(6);
        Due.calendar(six, 0, -1);
        Due.calendar(six + " other2 1;", -7, 55);
        Due.calendar(six + "other", -7, 54);
        Due.calendar(six + "law2 1;".repeat(12), 12, -1);
        WeekWheels x = Due.town(six + "law 3 1;");
        Due.due(x, "told(1)", y -> y.told(1), 6);
        Due.due(x, "trade(0, 63)", y -> y.trade(0, 63), 3);
        Due.due(x, "trade(0, 64)", y -> y.trade(0, 64), Due.ARGUMENT);
    }

    // Promise 3, by Terms: ""house" (HOUSES likewise, 10)"
    static void housesAre10AtMost() {
        Due.calendar("house;".repeat(10), 0, -1);
        Due.calendar("house;".repeat(10) + " house;", -7, 61);
        Due.calendar("house;".repeat(10) + "house", -7, 60);
        WeekWheels x = Due.town("law 5 4;" + "house;".repeat(10));
        Due.due(x, "told(2)", y -> y.told(2), 10);
        Due.due(x, "slip(0, 0)", y -> y.slip(0, 0), 0);
        Due.due(x, "turn(9, 0, 3)", y -> y.turn(9, 0, 3), 3);
        Due.due(x, "slip(9, 0)", y -> y.slip(9, 0), 3);
        Due.due(x, "slip(10, 0)", y -> y.slip(10, 0), Due.ELEMENT);
        Due.due(x, "right(1)", y -> y.right(1), 511);
    }

    // Promise 3, by Terms: ""slip" H L S (in HOUSE H the WHEEL of LAW L is S ahead, 0 to W less 1; the last counts; 0 without)"
    static void slipIs0ToWLess1() {
        String two = "law 2 0;law 24 0;house;";
        Due.calendar(two + "slip 0 0 0;", 2, -1);
        Due.calendar(two + "slip 0 0 1;", 2, -1);
        Due.calendar(two + "slip 0 0 2;", -8, 32);
        Due.calendar(two + "slip 0 1 23;", 2, -1);
        Due.calendar(two + "slip 0 1 24;", -8, 32);
        WeekWheels x = Due.town(two + "slip 0 1 23;slip 0 0 1;slip 0 0 0;");
        Due.due(x, "slip(0, 1)", y -> y.slip(0, 1), 23);
        Due.due(x, "slip(0, 0): the last counts, 0 too", y -> y.slip(0, 0), 0);
        WeekWheels z = Due.town(two + "slip 0 1 0;slip 0 1 7;");
        Due.due(z, "slip(0, 1): the last counts", y -> y.slip(0, 1), 7);
        Due.due(z, "slip(0, 0): 0 without", y -> y.slip(0, 0), 0);
        WeekWheels last = Due.town("law2 0;".repeat(11) + "law 24 0;" + "house;".repeat(10) + "slip 9 11 23;slip 9 0 1;");
        Due.due(last, "slip(9, 11)", y -> y.slip(9, 11), 23);
        Due.due(last, "slip(9, 0)", y -> y.slip(9, 0), 1);
        Due.due(last, "slip(8, 11)", y -> y.slip(8, 11), 0);
    }

    // Promise 3, by Terms: ""still" N (a DAY, 0 to 99,999, behind which no WHEEL of either town was turned; 3 at most; twice as once)"
    static void stillIs0To99999() {
        Due.calendar("still 0;", 0, -1);
        Due.calendar("still 99999;", 0, -1);
        Due.calendar("still 100000;", -8, 6);
        Due.calendar("still 4294967296;", -8, 6);
        WeekWheels x = Due.town("law 5 0;other 5 0;still 0;");
        Due.due(x, "turned(0)", y -> y.turned(0), 0);
        Due.due(x, "turned(1)", y -> y.turned(1), 0);
        Due.due(x, "turned(2)", y -> y.turned(2), 1);
        Due.due(x, "holds(1)", y -> y.holds(1), 1);
        Due.ask(x, "town 0");
        Due.due(x, "the other town's on 1", y -> y.such(1), true);
        Due.due(x, "the other town's on 2", y -> y.such(2), false);
        WeekWheels z = Due.town("still 99999;");
        Due.due(z, "turned(99999)", y -> y.turned(99_999), 99_999);
        Due.due(z, "turned(100000)", y -> y.turned(100_000), 99_999);
        Due.due(z, "turned(LAST)", y -> y.turned(Due.LAST), Due.LAST - 1);
    }

    // Promise 3, by Terms: "3 at most; twice as once"
    static void stillsAre3AtMostTwiceAsOnce() {
        Due.calendar("still 1;still 2;still 3;", 0, -1);
        Due.calendar("still 1;still 1;still 2;still 2;still 1;still 3;", 0, -1);
        WeekWheels x = Due.town("still 4;still 4;still 4;still 4;");
        Due.due(x, "told(3)", y -> y.told(3), 1);
        Due.due(x, "turned(4)", y -> y.turned(4), 4);
        Due.due(x, "turned(5)", y -> y.turned(5), 4);
        WeekWheels z = Due.town("still 4;still 0;still 4;still 99999;");
        Due.due(z, "told(3)", y -> y.told(3), 3);
        Due.due(z, "turned(100000)", y -> y.turned(100_000), 99_997);
    }

    // Promise 3, by Terms: "H, L: told ahead."
    static void slipsHouseAndLawAreToldAhead() {
        Due.calendar("slip 0 0 0;law 5 0;house;", -8, 5);
        Due.calendar("law 5 0;slip 0 0 0;house;", -8, 13);
        Due.calendar("house;slip 0 0 0;law 5 0;", -8, 13);
        Due.calendar("other 5 0;house;slip 0 0 0;", -8, 23);
        Due.calendar("law 5 0;house;slip 0 0 0;", 1, -1);
        Due.calendar("law 5 0;house;slip 1 0 0;house;", -8, 19);
        Due.calendar("law 5 0;house;slip 0 1 0;law 5 0;", -8, 21);
        Due.calendar("law 5 0;house;house;law 5 0;slip 1 1 0;", 2, -1);
    }

    // Promise 3, by Terms: "The WHOLE TURN (the least number that all W of LAWS divide; 1 without), with those of the other town,
    // is 100,000 at most"
    static void wholeTurnIs100000AtMost() {
        // 99,484 is the greatest that weeks can have by this bound, 100,464 the least beyond it
        Due.calendar("law4 0;law7 0;law11 0;law17 0;law19 0;", 5, -1);
        Due.calendar("law3 0;law7 0;law13 0;law16 0;law23 0;", -6, 38);
        Due.calendar("law4 0;law7 0;law11 0;other17 0;other19 0;", 3, -1);
        Due.calendar("law3 0;law7 0;law13 0;other16 0;other23 0;", -6, 42);
        Due.calendar("other4 0;other7 0;other11 0;other17 0;other19 0;", 0, -1);
        Due.calendar("other3 0;other7 0;other13 0;other16 0;other23 0;", -6, 48);
        WeekWheels x = Due.town("law4 0;law7 0;law11 0;law17 0;law19 0;other 2 0;");
        Due.due(x, "told(4)", y -> y.told(4), 99_484);
        Due.due(x, "told(5)", y -> y.told(5), 99_484);
        Due.keeps(() -> Due.town("other 5 0;"), "told(4): 1 without", y -> y.told(4), 1);
        Due.keeps(() -> Due.town("other 5 0;"), "told(5)", y -> y.told(5), 5);
        Due.keeps(() -> Due.town("law 2 0;"), "told(4)", y -> y.told(4), 2);
    }

    // Promise 3, by Terms: "The WHOLE TURN (the least number that all W of LAWS divide; 1 without), with those of the other town,
    // is 100,000 at most"
    static void wholeTurnFarBeyond100000() {
        // some of these turns go beyond what an int holds, and by chance leave a number below 0 or a small one
        Due.calendar("law24 0;law23 0;law22 0;law21 0;law20 0;law19 0;law18 0;law17 0;law16 0;law15 0;law14 0;law13 0;", -6, 96);
        int[] weeks = {23, 19, 17, 24, 13, 11, 9, 7, 5, 16};
        StringBuilder text = new StringBuilder();
        for (int i = 0; i < weeks.length; i++) {
            text.append("law").append(weeks[i]).append(" 0;");
            boolean fits = i < 3;
            Due.calendar(text.toString(), fits ? i + 1 : -6, fits ? -1 : text.length());
        }
    }

    // Promise 4, by Terms: "so it is with all A of a WISH, too."
    static void wholeTurnWithAWishFarBeyond100000() {
        // some of these turns go beyond what a long holds, and by chance leave a number below 0 or a small one
        int[] divisors = {97, 89, 83, 79, 73, 71, 67, 64, 61, 59, 53, 47, 43, 41, 37, 31, 29, 27, 25, 23};
        StringBuilder text = new StringBuilder();
        for (int i = 0; i < divisors.length; i++) {
            text.append(i == 0 ? "" : "or ").append("day").append(divisors[i]).append(" 0");
            boolean fits = i < 2;
            Due.wish("law 2 0;", text.toString(), fits ? 1 : -6, fits ? -1 : text.length());
        }
    }

    // Promise 4, by Terms: "so it is with all A of a WISH, too."
    static void wholeTurnWithAWishIs100000AtMost() {
        // 99,975 is the greatest that all A can have by this bound, 100,011 the least beyond it
        Due.wish("", "day3 0 or day25 0 or day31 0 or day43 0", 1, -1);
        Due.wish("", "day3 0 or day17 0 or day37 0 or day53 0", -6, 39);
        Due.wish("law 3 0;other 5 0;", "day 25 0 or day 31 0 or day 43 0", 1, -1);
        Due.wish("law 3 0;other 17 0;", "day 37 0 or day 53 0", -6, 20);
        Due.wish("law 3 0;", "not[day 17 0 and day 37 0]or day 53 0  ", -6, 39);
        Due.wish("law4 0;law7 0;law11 0;law17 0;law19 0;", "day 76 75", 1, -1);
        Due.wish("law4 0;law7 0;law11 0;law17 0;law19 0;", "day 3 0", -6, 7);
        WeekWheels x = Due.town("");
        Due.ask(x, "day3 2 and day25 24 and day31 30 and day43 42");
        Due.due(x, "next(0)", y -> y.next(0), 99_974);
        Due.due(x, "next(99975)", y -> y.next(99_975), 199_949);
        Due.due(x, "a wish that is too great", y -> Due.ask(y, "day3 0 or day17 0 or day37 0 or day53 0"), -6);
        Due.due(x, "next(0), the older wish stays", y -> y.next(0), 99_974);
        Due.due(x, "an older wish's A", y -> Due.ask(y, "day2 0 or day3 0 or day97 0"), 1);
        Due.due(x, "is none of the next one's", y -> Due.ask(y, "day89 0 or day83 0"), 1);
        Due.due(x, "nor is that of a wish that was too great", y -> Due.ask(y, "day97 0 or day79 0"), 1);
    }

    // Promise 4, by Terms: "A WISH is of up to 200 bytes: C, at the end nothing more."
    static void wishOf200Bytes() {
        Due.wish(TOWN, "law 0" + " ".repeat(195), 1, -1);
        Due.wish(TOWN, " ".repeat(195) + "law 1", 1, -1);
        Due.wish(TOWN, " ".repeat(196) + "law ", -9, 200);
        Due.wish(TOWN, "law 0" + " ".repeat(194) + "?", -9, 199);
        Due.wish(TOWN, "law " + "0".repeat(195) + "1", 1, -1);
        Due.wish(TOWN, "law0" + "or law1".repeat(28), 1, -1);
        Due.wish(TOWN, "law 0" + "or law 1".repeat(24) + "or ", -9, 200);
        WeekWheels x = Due.town(TOWN);
        Due.feed(x, " ".repeat(195) + "law 1 ");
        Due.due(x, "wish(201)", y -> y.wish(201), Due.ARGUMENT);
        Due.due(x, "sums(4): the tape stays", y -> y.sums(4), 220);
        Due.due(x, "wish(200)", y -> y.wish(200), 1);
    }

    // Promise 4, by Terms: "C, at the end nothing more."
    static void wishIsNotEmptyAndHasNothingMoreAtItsEnd() {
        Due.wish(TOWN, "", -9, 0);
        Due.wish(TOWN, "   ", -9, 3);
        Due.wish(TOWN, "law 0 ", 1, -1);
        Due.wish(TOWN, "law 0 ;", -9, 6);
        Due.wish(TOWN, "law 0 law 1", -9, 6);
        Due.wish(TOWN, "law 0 ]", -9, 6);
        Due.wish(TOWN, "law 0 [law 1]", -9, 6);
        Due.wish(TOWN, "law 0 not law 1", -9, 6);
        Due.wish(TOWN, "law 0 1", -9, 6);
        Due.wish(TOWN, "[law 0] law 1", -9, 8);
    }

    // Promise 4, by Terms: ""law" K (LAW K holds)"
    static void wishsLawIsOneThatIsTold() {
        Due.wish(TOWN, "law 0", 1, -1);
        Due.wish(TOWN, "law 1", 1, -1);
        Due.wish(TOWN, "law 2", -8, 4);
        Due.wish("", "law 0", -8, 4);
        Due.wish("law2 0;".repeat(12), "law 11", 1, -1);
        Due.wish("law2 0;".repeat(12), "law 12", -8, 4);
        Due.wish("other 5 0;", "law 0", -8, 4);
    }

    // Promise 4, by Terms: ""many" N (just N LAWS hold, 0 to 12)"
    static void wishsManyIs0To12() {
        Due.wish(TOWN, "many 0", 1, -1);
        Due.wish(TOWN, "many 12", 1, -1);
        Due.wish(TOWN, "many 13", -8, 5);
        Due.wish("", "many 12", 1, -1);
        WeekWheels x = Due.town("law2 0;".repeat(12));
        Due.ask(x, "many 12");
        Due.due(x, "such(0), all twelve", y -> y.such(0), true);
        Due.due(x, "such(1), none", y -> y.such(1), false);
        Due.ask(x, "many 0");
        Due.due(x, "such(0), all twelve", y -> y.such(0), false);
        Due.due(x, "such(1), none", y -> y.such(1), true);
        WeekWheels z = new WeekWheels();
        Due.ask(z, "many 0");
        Due.due(z, "next(0) without laws", y -> y.next(0), 0);
        Due.ask(z, "many 1");
        Due.due(z, "next(0) without laws", y -> y.next(0), -1);
    }

    // Promise 4, by Terms: ""day" A R (the DAY leaves R by A; A 2 to 99, R 0 to A less 1)"
    static void wishsDayIs2To99() {
        Due.wish("", "day 2 0", 1, -1);
        Due.wish("", "day 2 1", 1, -1);
        Due.wish("", "day 2 2", -8, 6);
        Due.wish("", "day 99 0", 1, -1);
        Due.wish("", "day 99 98", 1, -1);
        Due.wish("", "day 99 99", -8, 7);
        Due.wish("", "day 1 0", -8, 4);
        Due.wish("", "day 0 0", -8, 4);
        Due.wish("", "day 100 0", -8, 4);
        WeekWheels x = new WeekWheels();
        Due.ask(x, "day 99 98");
        Due.due(x, "such(97)", y -> y.such(97), false);
        Due.due(x, "such(98)", y -> y.such(98), true);
        Due.due(x, "such(99)", y -> y.such(99), false);
        Due.due(x, "such(197)", y -> y.such(197), true);
        for (int left = 62; left <= 66; left++) {
            int r = left;
            Due.ask(x, "day 99 " + r);
            Due.due(x, "such(0) of day 99 " + r, y -> y.such(0), false);
            Due.due(x, "next(0) of day 99 " + r, y -> y.next(0), r);
            Due.due(x, "next of day 99 " + r + " behind it", y -> y.next(r + 1), r + 99);
        }
        WeekWheels z = Due.town("still 0;");
        Due.ask(z, "day 2 0");
        Due.due(z, "such(1): by the DAY, not by turns", y -> y.such(1), false);
        Due.due(z, "such(2): by the DAY, not by turns", y -> y.such(2), true);
    }

    // Promise 4, by Terms: ""house" H K (in HOUSE H LAW K holds), or "town" K (LAW K of the other town holds)."
    static void wishsHouseAndTownAreTold() {
        Due.wish(TOWN, "house 1 1", 1, -1);
        Due.wish(TOWN, "house 2 1", -8, 6);
        Due.wish(TOWN, "house 1 2", -8, 8);
        Due.wish(TOWN, "house 2 2", -8, 6);
        Due.wish("house;", "house 0 0", -8, 8);
        Due.wish("law 5 4;", "house 0 0", -8, 6);
        Due.wish(TOWN, "town 0", 1, -1);
        Due.wish(TOWN, "town 1", -8, 5);
        Due.wish("law 5 4;", "town 0", -8, 5);
        Due.wish("other2 0;".repeat(6), "town 5", 1, -1);
        Due.wish("other2 0;".repeat(6), "town 6", -8, 5);
        Due.wish("law2 0;".repeat(12) + "house;".repeat(10), "house 9 11", 1, -1);
        Due.wish("law2 0;".repeat(12) + "house;".repeat(10), "house 10 11", -8, 6);
        Due.wish("law2 0;".repeat(12) + "house;".repeat(10), "house 9 12", -8, 8);
    }

    // Promise 4, by Terms: "Numbers: digits, as many as stand there"
    static void numbersAreAllDigitsThatStandThere() {
        Due.calendar("law 000000000000000000000000000000002 0000000000000000000000000001;", 1, -1);
        Due.calendar("law 4294967298 0;", -8, 4);
        Due.calendar("law 18446744073709551618 0;", -8, 4);
        Due.calendar("law 1000002 0;", -8, 4);
        Due.calendar("law 50;", -8, 4);
        Due.calendar("law 5 4x;", -9, 7);
        Due.calendar("law 5 +4;", -9, 6);
        Due.calendar("law 5.0 4;", -9, 5);
        Due.calendar("law 5/4;", -9, 5);
        Due.calendar("law 5:4;", -9, 5);
        Due.calendar("still 000099999;", 0, -1);
        Due.wish(TOWN, "law 00000000000000001", 1, -1);
        Due.wish(TOWN, "law 4294967296", -8, 4);
        Due.wish(TOWN, "day 0000000002 0000000001", 1, -1);
    }

    // Promise 4, by Terms: "WORDS: small letters, as many as stand there"
    static void wordsAreAllSmallLettersThatStandThere() {
        Due.calendar("law5 4;", 1, -1);
        for (char letter = 'a'; letter <= 'z'; letter++) {
            Due.calendar("law" + letter + " 5 4;", -9, 0);
            Due.calendar(letter + "law 5 4;", -9, 0);
            Due.wish(TOWN, "law 0 or" + letter + " law 1", -9, 6);
        }
        for (String word : new String[] {"law 5 4;", "other 5 4;", "house;", "still 1;"}) {
            for (int i = 0; i < word.length() && Character.isLetter(word.charAt(i)); i++) {
                Due.calendar(word.substring(0, i) + "z" + word.substring(i + 1), -9, 0);
                Due.calendar(word.substring(0, i) + word.substring(i + 1), -9, 0);
            }
        }
        Due.calendar("LAW 5 4;", -9, 0);
        Due.calendar("lawL 5 4;", -9, 3);
        Due.calendar("houselaw 5 4;", -9, 0);
        Due.calendar("house law 5 4;", -9, 6);
        Due.calendar("houses;", -9, 0);
        Due.calendar("hous;", -9, 0);
        Due.calendar("law`5 4;", -9, 3);
        Due.calendar("law{5 4;", -9, 3);
        Due.wish(TOWN, "law0and law1", 1, -1);
        Due.wish(TOWN, "law0andlaw1", -9, 4);
        Due.wish(TOWN, "notlaw 1", -9, 0);
        Due.wish(TOWN, "not[law 1]or[law 0]and not law 1", 1, -1);
        Due.wish(TOWN, "law 0 an law 1", -9, 6);
        Due.wish(TOWN, "law 0 OR law 1", -9, 6);
        Due.wish(TOWN, "law 0 ors law 1", -9, 6);
    }

    // Promise 4, by Terms: "blanks (32) may stand ahead of all these, and at the end."
    static void blanksAre32Alone() {
        Due.calendar("  law  5  4  ;  house  ;  ", 1, -1);
        Due.wish(TOWN, "  not  [  law  0  or  law  1  ]  and  law  0  ", 1, -1);
        for (int sign : new int[] {0, 9, 10, 13, 31, 33, 127, 160, 255}) {
            Due.calendar((char) sign + "law 5 4;", -9, 0);
            Due.calendar("law" + (char) sign + "5 4;", -9, 3);
            Due.calendar("law 5 4;" + (char) sign, -9, 8);
            Due.wish(TOWN, (char) sign + "law 0", -9, 0);
            Due.wish(TOWN, "law 0" + (char) sign, -9, 5);
        }
    }

    // Promise 5, by Terms: "FAULTS, the first from the left, at its first byte"
    static void theFirstFaultFromTheLeft() {
        Due.calendar("law 1 99;what", -8, 4);
        Due.calendar("law 5 99;what", -8, 6);
        Due.calendar("what;law 1 99;", -9, 0);
        Due.calendar("law 5 0;still 100000;law 1 0;", -8, 14);
        Due.calendar("law2 0;".repeat(13) + "x", -7, 84);
        Due.calendar("law2 0;".repeat(12) + "x" + "law2 0;", -9, 84);
        Due.calendar("   law   0099;", -8, 9);
        Due.wish(TOWN, "law 9 and what", -8, 4);
        Due.wish(TOWN, "what and law 9", -9, 0);
        Due.wish(TOWN, "[[[[[[[law 9", -7, 6);
        Due.wish(TOWN, "[[[[[[law 9]]]]]] and [[[[[[[", -8, 10);
        Due.wish(TOWN, "house 9 9", -8, 6);
        Due.wish(TOWN, "day 100 100", -8, 4);
    }

    // Promise 5, by Terms: "1 what can't stand there (at the length, if the text ends too early)"
    static void aTextThatEndsTooEarly() {
        String clause = "law 5 4;";
        for (int n = 0; n <= clause.length(); n++) {
            boolean whole = n == 0 || n == clause.length();
            // its first two letters alone are another word, which can't stand there from its first byte on
            int place = whole ? -1 : n < 3 ? 0 : n;
            Due.calendar(clause.substring(0, n), whole ? n / 8 : -9, place);
        }
        String slip = "law 5 4;house;slip 0 0 4;";
        for (int n = 18; n < slip.length(); n++) {
            Due.calendar(slip.substring(0, n), -9, n);
        }
        Due.calendar("still", -9, 5);
        Due.calendar("still ", -9, 6);
        Due.calendar("house", -9, 5);
        Due.calendar("house   ", -9, 8);
        Due.wish(TOWN, "not", -9, 3);
        Due.wish(TOWN, "not ", -9, 4);
        Due.wish(TOWN, "[", -9, 1);
        Due.wish(TOWN, "[law 0", -9, 6);
        Due.wish(TOWN, "[law 0  ", -9, 8);
        Due.wish(TOWN, "law 0 and", -9, 9);
        Due.wish(TOWN, "law 0 or  ", -9, 10);
        Due.wish(TOWN, "day 7", -9, 5);
        Due.wish(TOWN, "house 0 ", -9, 8);
        Due.wish(TOWN, "many", -9, 4);
        Due.wish(TOWN, "town", -9, 4);
        Due.wish(TOWN, "law", -9, 3);
    }

    // Promise 5, by Terms: "1 what can't stand there"
    static void whatCantStandThere() {
        Due.calendar(";", -9, 0);
        Due.calendar("law 5 4;;", -9, 8);
        Due.calendar("5 4;", -9, 0);
        Due.calendar("law law 5 4;", -9, 4);
        Due.calendar("law ;", -9, 4);
        Due.calendar("law 5;", -9, 5);
        Due.calendar("law 5 4 3;", -9, 8);
        Due.calendar("house 1;", -9, 6);
        Due.calendar("law 5 -1;", -9, 6);
        Due.calendar("still -1;", -9, 6);
        Due.calendar("town 5 4;", -9, 0);
        Due.calendar("day 5 4;", -9, 0);
        Due.wish(TOWN, "other 0", -9, 0);
        Due.wish(TOWN, "slip 0 0", -9, 0);
        Due.wish(TOWN, "and law 0", -9, 0);
        Due.wish(TOWN, "law 0 and or law 1", -9, 10);
        Due.wish(TOWN, "not or", -9, 4);
        Due.wish(TOWN, "[]", -9, 1);
        Due.wish(TOWN, "law [0]", -9, 4);
        Due.wish(TOWN, "law -1", -9, 4);
        Due.wish(TOWN, "0", -9, 0);
    }

    // Promise 5, by Terms: "2 a number that is none such"
    static void aNumberThatIsNoneSuch() {
        Due.calendar("law 1", -8, 4);
        Due.calendar("law 1?", -8, 4);
        Due.calendar("law 5 5", -8, 6);
        Due.calendar("still 100000", -8, 6);
        Due.calendar("slip 0", -8, 5);
        Due.calendar("law 5 4;house;slip 0 0 5", -8, 23);
        Due.wish(TOWN, "law 2", -8, 4);
        Due.wish(TOWN, "many 13?", -8, 5);
        Due.wish(TOWN, "[day 5 5", -8, 7);
    }

    // Promise 5, by Terms: "3 a CLAUSE, LAW, HOUSE or still too many (at its word; behind three unlike ones there is no still any more)"
    static void oneTooManyAtItsWord() {
        Due.calendar(SIXTY + "  house;", -7, 422);
        Due.calendar("law2 0;".repeat(12) + "  law 2 0;", -7, 86);
        Due.calendar("other2 0;".repeat(6) + "  other 2 0;", -7, 56);
        Due.calendar("house;".repeat(10) + "  house;", -7, 62);
        Due.calendar("still 1;still 2;still 3;  still 4;", -7, 26);
        Due.calendar("still 1;still 2;still 3;still 1;", -7, 24);
        Due.calendar("still 1;still 2;still 3;still", -7, 24);
        Due.calendar("still 1;still 2;still 3;still 100000;", -7, 24);
        Due.calendar("still 1;still 2;still 2;still 1;still 3;house;still 3;", -7, 46);
        Due.calendar("still 1;still 2;still 3;stills 4;", -9, 24);
        // of a word that can't stand there and of a clause too many, both at one place, the least is told
        Due.calendar(SIXTY + "what;", -9, 420);
        Due.calendar(SIXTY + "5;", -9, 420);
    }

    // Promise 5, by Terms: "or a 7th of [ and not that is open at one time (a not till its B ends)"
    static void aSeventhThatIsOpen() {
        Due.wish(TOWN, "[[[[[[law 0]]]]]]", 1, -1);
        Due.wish(TOWN, "[[[[[[[law 0]]]]]]]", -7, 6);
        Due.wish(TOWN, "[[[[[[  [law 0]]]]]]]", -7, 8);
        Due.wish(TOWN, "not not not not not not law 0", 1, -1);
        Due.wish(TOWN, "not not not not not not not law 0", -7, 24);
        Due.wish(TOWN, "not[not[not[law 0]]]", 1, -1);
        Due.wish(TOWN, "not[not[not[not law 0]]]", -7, 12);
        Due.wish(TOWN, "not[not[not[[law 0]]]]", -7, 12);
        Due.wish(TOWN, "[[[[[[law 0]]]]]]and[[[[[[law 1]]]]]]or[[[[[[law 1]]]]]]", 1, -1);
        Due.wish(TOWN, "[[[[[[law 0]and[law 1]]]]]]", 1, -1);
        Due.wish(TOWN, "[[[[[[law 0]and[law 1 or[law 0]]]]]]]", -7, 24);
        Due.wish(TOWN, "not not not not not not law 0 and not not not not not not law 1", 1, -1);
        Due.wish(TOWN, "[[[[[not law 0 and not law 1 or not law 0]]]]]", 1, -1);
        Due.wish(TOWN, "[[[[[not[law 0]and not law 1]]]]]", -7, 8);
        Due.wish(TOWN, "not[[[[[law 0]]]]]and not[[[[[law 1]]]]]", 1, -1);
        Due.wish(TOWN, "not not[[[[law 0 and not law 1]]]]", -7, 21);
        Due.wish(TOWN, "[[[[[[law 0 [", -9, 12);
        Due.wish(TOWN, "[[[[[[nots law 0", -9, 6);
    }

    // Promise 5, by Terms: "4 at its end (the length): that is too great; of one the least."
    static void tooGreatAtItsEnd() {
        String great = "law23 0;law19 0;law17 0;law16 0;";
        Due.calendar(great, -6, 32);
        Due.calendar(great + "   ", -6, 35);
        Due.calendar(great + "house;", -6, 38);
        Due.calendar(great + "house", -9, 37);
        Due.calendar(great + "law 2", -9, 37);
        Due.calendar(great + "law 1 0;", -8, 36);
        Due.calendar(great + "still1;still2;still3;still4;", -7, 53);
        Due.wish("", "day97 0 or day89 0 or day83 0", -6, 29);
        Due.wish("", "[day97 0 or day89 0 or day83 0", -9, 30);
        Due.wish("", "day97 0 or day89 0 or day83 0 or", -9, 32);
        Due.wish("", "day97 0 or day89 0 or day83 0 or ?", -9, 33);
    }

    // Promise 3: "The first n bytes of the TAPE (empty then) are the CALENDAR (no WISH, nothing SEEN, done; no WORKS, IMAGES): how
    // many LAWS; or the FAULT less 10 (all stays)."
    static void calendarTakesTheFirstBytesAndEmptiesTheTape() {
        WeekWheels x = new WeekWheels();
        Due.feed(x, "law 5 4;law 7 6;house;house;");
        Due.due(x, "sums(4)", y -> y.sums(4), 40);
        Due.due(x, "calendar(22)", y -> y.calendar(22), 2);
        Due.due(x, "told(2)", y -> y.told(2), 1);
        Due.due(x, "sums(4): empty then", y -> y.sums(4), 0);
        Due.due(x, "calendar(0): no laws", y -> y.calendar(0), 0);
        Due.due(x, "told(0)", y -> y.told(0), 0);
        Due.due(x, "told(2)", y -> y.told(2), 0);
        Due.feed(x, "law 5 4;");
        Due.due(x, "calendar(0): none of the bytes", y -> y.calendar(0), 0);
        Due.due(x, "sums(4): empty then", y -> y.sums(4), 0);
    }

    // Promise 3: "The first n bytes of the TAPE (empty then) are the CALENDAR"
    static void calendarLooksAtNoByteBehindTheFirstN() {
        String[] texts = {"houses;", "house;?", "law 2 11;", "law 2 1;x", "law 2 1 ;", "still 99999;"};
        int[] bytes = {5, 6, 7, 8, 7, 11};
        int[] answers = {-9, 0, -9, 1, -9, -9};
        int[] places = {5, -1, 7, -1, 7, 11};
        for (int i = 0; i < texts.length; i++) {
            WeekWheels x = new WeekWheels();
            int n = bytes[i];
            Due.feed(x, texts[i]);
            Due.due(x, "calendar(" + n + ") of '" + texts[i] + "'", y -> y.calendar(n), answers[i]);
            Due.due(x, "fault()", WeekWheels::fault, places[i]);
        }
    }

    // Promise 4: "Likewise the WISH (n to 200): 1."
    static void wishLooksAtNoByteBehindTheFirstN() {
        String[] texts = {"law 12", "law 1?", "law 1 orx", "[law 1]", "day 9 88"};
        int[] bytes = {5, 5, 8, 6, 7};
        int[] answers = {1, 1, -9, -9, 1};
        int[] places = {-1, -1, 8, 6, -1};
        for (int i = 0; i < texts.length; i++) {
            WeekWheels x = Due.town(TOWN);
            int n = bytes[i];
            Due.feed(x, texts[i]);
            Due.due(x, "wish(" + n + ") of '" + texts[i] + "'", y -> y.wish(n), answers[i]);
            Due.due(x, "fault()", WeekWheels::fault, places[i]);
        }
    }

    // Promise 3: "(no WISH, nothing SEEN, done; no WORKS, IMAGES)"
    static void calendarBeginsAnew() {
        for (String text : new String[] {"", "law 2 1;house;"}) {
            WeekWheels x = Due.busy();
            Due.due(x, "calendar", y -> Due.tell(y, text), text.isEmpty() ? 0 : 1);
            Due.same("all that later calls show", Due.shown(x), Due.shown(Due.town(text)));
        }
        WeekWheels x = Due.busy();
        Due.tell(x, "law 2 1;house;");
        Due.due(x, "restore(): no images", WeekWheels::restore, -1);
        WeekWheels slips = Due.town("law 5 4;law 7 6;house;house;slip 0 0 3;slip 0 1 6;slip 1 0 4;");
        slips.turn(1, 1, 3);
        Due.tell(slips, "law 5 4;law 7 6;house;house;");
        Due.same("all that later calls show", Due.shown(slips), Due.shown(Due.town("law 5 4;law 7 6;house;house;")));
        Due.due(x, "forget()", WeekWheels::forget, 0);
        Due.due(x, "rest()", WeekWheels::rest, 0);
    }

    /** All that is shown but for the fault's place. */
    static String shownButTheFault(WeekWheels x) {
        String all = Due.shown(x);
        return all.substring(all.indexOf(" bytes"));
    }

    // Promise 3: "or the FAULT less 10 (all stays)"
    static void calendarWithAFaultLeavesAll() {
        String[] texts = {"law", "law 1 0;", "still1;still2;still3;still4;", "law23 0;law19 0;law17 0;law16 0;",
            "house;house;house;law 2 1;other 2 1;still 5;slip 0 0 2;"};
        int[] answers = {-9, -8, -7, -6, -8};
        for (int i = 0; i < texts.length; i++) {
            String text = texts[i];
            WeekWheels x = Due.busy();
            Due.due(x, "calendar of '" + text + "'", y -> Due.tell(y, text), answers[i]);
            Due.same("nothing is refused by a fault", x.status(0) + x.status(1) + x.status(2), 0);
            Due.same("all that later calls show", shownButTheFault(x), shownButTheFault(Due.busy()));
        }
    }

    // Promise 3: "or the FAULT less 10 (all stays)"
    static void calendarWithAFaultLeavesNothingForTheNext() {
        WeekWheels x = new WeekWheels();
        Due.tell(x, "law 5 4;law 7 6;house;house;slip 0 1 6;slip 1 0 4;other 3 2;still 0;still 1;still 2;still 3;");
        Due.tell(x, "law 5 4;law 7 6;house;house;");
        Due.same("all that later calls show", Due.shown(x), Due.shown(Due.town("law 5 4;law 7 6;house;house;")));
        WeekWheels z = new WeekWheels();
        Due.ask(z, "many 1 or day 5 5");
        Due.ask(z, "day 5 4");
        Due.due(z, "next(0)", y -> y.next(0), 4);
        Due.due(z, "next(5)", y -> y.next(5), 9);
    }

    static WeekWheels busyWithBytes() {
        WeekWheels x = Due.busy();
        Due.feed(x, "law 2 1;house;");
        return x;
    }

    // Promise 3: "IllegalArgumentException: n is not 0 to the TAPE's bytes (it stays)."
    static void calendarsNIs0ToTheTapesBytes() {
        Due.within(WeekWheels::new, "calendar of an empty tape", (x, n) -> x.calendar(n), 0, 0, Due.ARGUMENT);
        Due.within(WeekWheelsTextEdges::busyWithBytes, "calendar", (x, n) -> x.calendar(n), 0, 20, Due.ARGUMENT);
        Due.within(WeekWheelsTextEdges::fullTape, "calendar of a full tape", (x, n) -> x.calendar(n), 0, 500, Due.ARGUMENT);
        WeekWheels x = busyWithBytes();
        Due.due(x, "calendar(21)", y -> y.calendar(21), Due.ARGUMENT);
        Due.due(x, "calendar(-1)", y -> y.calendar(-1), Due.ARGUMENT);
        Due.due(x, "sums(4): it stays", y -> y.sums(4), 20);
        Due.due(x, "calendar(14): it stays", y -> y.calendar(14), 1);
        Due.due(x, "calendar(1): the tape is empty", y -> y.calendar(1), Due.ARGUMENT);
    }

    static WeekWheels busyWithWish(int blanks) {
        WeekWheels x = Due.busy();
        Due.feed(x, " ".repeat(blanks) + "law 1");
        return x;
    }

    // Promise 4: "Likewise the WISH (n to 200): 1."
    static void wishsNIs0To200AndToTheTapesBytes() {
        Due.within(() -> busyWithWish(15), "wish", (x, n) -> x.wish(n), 0, 20, Due.ARGUMENT);
        Due.within(() -> busyWithWish(195), "wish of 200 bytes", (x, n) -> x.wish(n), 0, 200, Due.ARGUMENT);
        Due.within(() -> busyWithWish(196), "wish of 220 bytes", (x, n) -> x.wish(n), 0, 200, Due.ARGUMENT);
        Due.within(WeekWheelsTextEdges::fullTape, "wish of 500 bytes", (x, n) -> x.wish(n), 0, 200, Due.ARGUMENT);
        Due.within(WeekWheels::new, "wish of an empty tape", (x, n) -> x.wish(n), 0, 0, Due.ARGUMENT);
        WeekWheels x = busyWithWish(195);
        Due.due(x, "wish(201)", y -> y.wish(201), Due.ARGUMENT);
        Due.due(x, "sums(4): it stays", y -> y.sums(4), 200);
        Due.due(x, "wish(200)", y -> y.wish(200), 1);
        Due.due(x, "sums(4): empty then", y -> y.sums(4), 0);
        Due.due(x, "such(6)", y -> y.such(6), true);
        Due.due(x, "such(4)", y -> y.such(4), false);
        Due.feed(x, "law 0" + " ".repeat(400));
        Due.due(x, "wish(5) of more bytes than 200", y -> y.wish(5), 1);
        Due.due(x, "sums(4): empty then", y -> y.sums(4), 0);
        Due.due(x, "such(4)", y -> y.such(4), true);
    }

    // Promise 4: "Likewise the WISH (n to 200): 1."
    static void wishWithAFaultLeavesAll() {
        String[] texts = {"", "law 9", "not not not not not not not law 0", "day97 0 or day89 0", "law 1 and law 9"};
        int[] answers = {-9, -8, -7, -6, -8};
        for (int i = 0; i < texts.length; i++) {
            String text = texts[i];
            WeekWheels x = Due.busy();
            Due.due(x, "wish of '" + text + "'", y -> Due.ask(y, text), answers[i]);
            Due.same("nothing is refused by a fault", x.status(0) + x.status(1) + x.status(2), 0);
            Due.same("all that later calls show", shownButTheFault(x), shownButTheFault(Due.busy()));
        }
        WeekWheels x = Due.busy();
        Due.due(x, "a wish leaves all but the wish", y -> Due.ask(y, "law 0 or town 0"), 1);
        Due.same("all that later calls show", Due.shown(x), Due.shown(Due.busy()));
    }

    // Promise 5: "The place of the FAULT of the latest text; NONE without."
    static void faultIsOfTheLatestText() {
        WeekWheels x = new WeekWheels();
        Due.due(x, "fault() without a text", WeekWheels::fault, -1);
        Due.tell(x, "law 1 0;");
        Due.due(x, "fault() of a calendar", WeekWheels::fault, 4);
        Due.due(x, "fault() again", WeekWheels::fault, 4);
        Due.answer(x, y -> y.calendar(1));
        Due.due(x, "fault() behind a call that was refused", WeekWheels::fault, 4);
        Due.ask(x, "?");
        Due.due(x, "fault() at the first byte", WeekWheels::fault, 0);
        Due.ask(x, "many 0");
        Due.due(x, "fault() of a good wish", WeekWheels::fault, -1);
        Due.ask(x, "[many 0");
        Due.due(x, "fault() of a wish", WeekWheels::fault, 7);
        Due.tell(x, "law 2 0;");
        Due.due(x, "fault() of a good calendar", WeekWheels::fault, -1);
        Due.tell(x, " ".repeat(500));
        Due.tell(x, "?".repeat(500));
        Due.due(x, "fault()", WeekWheels::fault, 0);
        Due.tell(x, "law 2 1;" + " ".repeat(488) + "law ");
        Due.due(x, "fault() at the greatest length", WeekWheels::fault, 500);
    }
}
