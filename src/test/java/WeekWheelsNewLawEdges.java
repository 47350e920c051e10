/** The document's sentences on new laws, sights and houses that name a boundary: promises 21 to 30. */
public final class WeekWheelsNewLawEdges {
    /** The greatest WHOLE TURN that a calendar can have, 99,484: on its last day all five hold. */
    static final String LONGEST = "law4 3;law7 6;law11 10;law17 16;law19 18;";
    static final String TWELVE_AND_TEN = "law2 0;".repeat(11) + "law24 0;" + "house;".repeat(10);

    public static void main(String[] args) throws IllegalAccessException {
        Due.runAll(WeekWheelsNewLawEdges.class);
    }

    // Promise 21: "FREE NEW LAWS with a WEEK (2 to 24; 0: any): 0 how many, 1 the first (100 W and D; NONE)."
    static void freesWeekIs0Or2To24() {
        Due.within(Due::busy, "free of some", (x, week) -> x.free(1, week, 0), 2, 24, Due.ARGUMENT);
        Due.keeps(Due::busy, "free(0, 0, 0)", x -> x.free(0, 0, 0), 299);
        Due.keeps(Due::busy, "free(0, 0, 1)", x -> x.free(0, 0, 1), 200);
        Due.refuses(Due::busy, "free(0, -1, 0)", x -> x.free(0, -1, 0), Due.ARGUMENT);
        Due.refuses(Due::busy, "free(0, 1, 0)", x -> x.free(0, 1, 0), Due.ARGUMENT);
        Due.keeps(Due::busy, "free(0, 2, 0)", x -> x.free(0, 2, 0), 2);
        Due.keeps(Due::busy, "free(0, 2, 1)", x -> x.free(0, 2, 1), 200);
        Due.keeps(Due::busy, "free(0, 24, 0)", x -> x.free(0, 24, 0), 24);
        Due.keeps(Due::busy, "free(0, 24, 1)", x -> x.free(0, 24, 1), 2400);
        Due.refuses(Due::busy, "free(0, 25, 0)", x -> x.free(0, 25, 0), Due.ARGUMENT);
        Due.keeps(WeekWheels::new, "free(0, 0, 0) without laws", x -> x.free(0, 0, 0), 299);
        Due.refuses(WeekWheels::new, "free(1, 0, 0) without laws", x -> x.free(1, 0, 0), Due.ARGUMENT);
    }

    // Promise 21, by Terms: "FREE of some LAWS it is, if it can be together with none of them: how many there are, the first (W, then D)"
    static void freeOfJustTheLastNewLawAndOfNone() {
        String last = "law 2 0;law 3 0;law 3 1;law 4 1;law 8 3;law 24 23;";
        Due.keeps(() -> Due.town(last), "free(31, 0, 0): (24, 23) alone", x -> x.free(31, 0, 0), 1);
        Due.keeps(() -> Due.town(last), "free(31, 0, 1)", x -> x.free(31, 0, 1), 2423);
        Due.keeps(() -> Due.town(last), "free(31, 24, 1)", x -> x.free(31, 24, 1), 2423);
        Due.keeps(() -> Due.town(last), "free(31, 23, 0)", x -> x.free(31, 23, 0), 0);
        Due.keeps(() -> Due.town(last), "free(31, 23, 1)", x -> x.free(31, 23, 1), -1);
        Due.keeps(() -> Due.town(last), "free(63, 0, 0): none", x -> x.free(63, 0, 0), 0);
        Due.keeps(() -> Due.town(last), "free(63, 0, 1): none", x -> x.free(63, 0, 1), -1);
        Due.keeps(() -> Due.town(last), "free(1, 2, 0): (2, 1)", x -> x.free(1, 2, 0), 1);
        Due.keeps(() -> Due.town(last), "free(1, 2, 1)", x -> x.free(1, 2, 1), 201);
        Due.keeps(() -> Due.town(last), "free(1, 3, 0): no two of 2 and 3", x -> x.free(1, 3, 0), 0);
        Due.keeps(() -> Due.town("law 2 0;law 2 1;"), "free(3, 0, 0)", x -> x.free(3, 0, 0), 0);
    }

    // Promise 22, by Terms: "MEETING most: that which is together with some of these on the most DAYS (as a part of all DAYS), of these the first."
    static void meetingOfNoneAndTheLastNewLaws() {
        Due.keeps(WeekWheels::new, "meeting(0) without laws: the first", x -> x.meeting(0), 200);
        Due.refuses(WeekWheels::new, "meeting(1) without laws", x -> x.meeting(1), Due.ARGUMENT);
        Due.keeps(() -> Due.town("law 2 1;"), "meeting(0): the first", x -> x.meeting(0), 200);
        Due.keeps(() -> Due.town("law 2 1;"), "meeting(1)", x -> x.meeting(1), 201);
        Due.keeps(() -> Due.town("law 2 1;law 2 0;"), "meeting(3): all days, so the first", x -> x.meeting(3), 200);
        Due.keeps(() -> Due.town("law 23 22;"), "meeting(1): no other week has 23", x -> x.meeting(1), 2322);
        Due.keeps(() -> Due.town("law 24 23;"), "meeting(1): (2, 1) meets it as often", x -> x.meeting(1), 201);
        Due.keeps(() -> Due.town("law 24 22;"), "meeting(1): (2, 0) meets it as often", x -> x.meeting(1), 200);
        Due.keeps(() -> Due.town("law 3 0;law 3 1;"), "meeting(3): a third by 2, by 3 too, so the first", x -> x.meeting(3), 200);
        Due.keeps(() -> Due.town("law 5 4;law 5 4;"), "meeting(3): a day counts once", x -> x.meeting(3), 504);
        Due.keeps(() -> Due.town("law 5 4;other 5 0;other 2 0;"), "meeting(1): the other town is none of it", x -> x.meeting(1), 504);
        Due.keeps(() -> Due.town(LONGEST), "meeting(31): those of 4, 3 and more", x -> x.meeting(31), 201);
        Due.keeps(() -> Due.town("law 14 12;law 23 16;law 3 1;"), "meeting(7)", x -> x.meeting(7), 301);
        Due.keeps(() -> Due.town("law 7 2;law 11 8;law 5 2;"), "meeting(7)", x -> x.meeting(7), 502);
        Due.keeps(() -> Due.town("law 7 5;law 21 4;"), "meeting(3)", x -> x.meeting(3), 705);
        Due.keeps(() -> Due.town("law 17 5;law 19 14;"), "meeting(3)", x -> x.meeting(3), 1705);
        Due.keeps(() -> Due.town("law 5 1;law 9 1;"), "meeting(3): (3, 1) meets less often", x -> x.meeting(3), 501);
        Due.keeps(() -> Due.town("law 15 2;law 7 2;"), "meeting(3): (3, 2) meets less often", x -> x.meeting(3), 702);
        Due.keeps(() -> Due.town("law 17 11;law 13 8;"), "meeting(3)", x -> x.meeting(3), 1308);
        // days behind the turn's end would make others the most
        Due.keeps(() -> Due.town("law 16 1;law 20 6;"), "meeting(3), a turn of 80", x -> x.meeting(3), 201);
        Due.keeps(() -> Due.town("law 15 3;law 9 8;law 10 8;"), "meeting(7), a turn of 90", x -> x.meeting(7), 200);
        Due.keeps(() -> Due.town("law 16 10;law 16 15;law 13 9;"), "meeting(7), a turn of 208", x -> x.meeting(7), 200);
    }

    // Promise 23: "WEEKS told as digits to the base 100 (the first the highest; 2 to 6 of them): the DAYS likewise; NONE: there are none.
    // IllegalArgumentException: such WEEKS, n (1 to 6)."
    static void weeksAre2To6Of2To24() {
        long[] taken = {202, 2424, 224, 2402, 20_202_020_202L, 242_424_242_424L, 20_402, 203_040_506L};
        for (long told : taken) {
            Due.keeps(WeekWheels::new, "weeks(" + told + ", 6)", x -> x.weeks(told, 6), 0L);
        }
        long[] refused = {0, 2, 24, 99, 100, 102, 201, 200, 2_500, 225, 2502, 2425, 2524, 299, 9902, 20_002, 20_102, 22_502,
            2_020_202_020_202L, 24_242_424_242_424L, 1_020_202_020_202L, 10_202_020_202L, 250_202_020_202L, 20_202_020_201L,
            20_202_020_225L, -1, -202, -20_202_020_202L, Long.MAX_VALUE, Long.MIN_VALUE, 202L + (1L << 32), 1_000_000_000_202L};
        for (long told : refused) {
            Due.refuses(Due::busy, "weeks(" + told + ", 1)", x -> x.weeks(told, 1), Due.ARGUMENT);
        }
    }

    // Promise 23: "IllegalArgumentException: such WEEKS, n (1 to 6)."
    static void weeksNIs1To6() {
        Due.within(WeekWheels::new, "weeks' n", (x, n) -> x.weeks(202, n), 1, 6, Due.ARGUMENT);
        Due.within(Due::busy, "weeks' n", (x, n) -> x.weeks(242_424_242_424L, n), 1, 6, Due.ARGUMENT);
        Due.refuses(Due::busy, "weeks(24, 0): both are wrong, one is counted", x -> x.weeks(24, 0), Due.ARGUMENT);
        Due.keeps(WeekWheels::new, "weeks(202, 1)", x -> x.weeks(202, 1), 1L);
        Due.keeps(WeekWheels::new, "weeks(202, 2): both may meet", x -> x.weeks(202, 2), 0L);
        Due.keeps(WeekWheels::new, "weeks of six, 5", x -> x.weeks(20_202_020_202L, 5), 1L);
        Due.keeps(WeekWheels::new, "weeks of six, 6", x -> x.weeks(20_202_020_202L, 6), 0L);
    }

    // Promise 23, by Terms: "WEEKS told (2 to 6 of 2 to 24): DAYS for them by which never more than n are together: the first row
    // (WEEK by WEEK, the least DAY)."
    static void weeksFirstRowOrNone() {
        Object[][] rows = {{2_424L, 1, 1L}, {203L, 1, -1L}, {2_324L, 1, -1L}, {20_202L, 1, -1L}, {20_202L, 2, 1L},
            {20_202_020_202L, 2, -1L}, {20_202_020_202L, 3, 10_101L}, {60_606_060_606L, 1, 102_030_405L},
            {50_505_050_505L, 1, -1L}, {50_505_050_505L, 2, 1_010_202L}, {242_424_242_424L, 1, 102_030_405L},
            {204_081_616L, 1, 1_030_715L}, {20_408_161_616L, 1, -1L}, {20_408_161_624L, 1, -1L}, {1_616_080_402L, 1, 8_040_201L},
            {1_602L, 1, 1L}, {2_324L, 2, 0L}, {40_402L, 1, 201L}, {4_060_912L, 2, 101L}, {4_060_812L, 1, 10_203L}, {406_091_210L, 2, 10_201L},
            {2_030_406L, 2, 101L}, {20_304_060_809L, 3, 10_101L}, {40_406_060_909L, 2, 100_010_205L}, {20_406_081_012L, 4, 101L},
            {20_406_081_012L, 2, 1_020_103L}, {20_203_030_505L, 3, 100_010_001L}, {2_030_507L, 3, -1L}, {2_030_507L, 4, 0L},
            {3_061_224L, 1, 10_204L}, {24_120_603L, 1, 10_302L}, {303_061_224L, 1, 1_020_511L}};
        for (Object[] row : rows) {
            long told = (Long) row[0];
            int n = (Integer) row[1];
            Due.keeps(WeekWheels::new, "weeks(" + told + ", " + n + ")", x -> x.weeks(told, n), row[2]);
        }
        WeekWheels all = new WeekWheels();
        for (Object[] row : rows) {
            Due.due(all, "weeks(" + row[0] + ", " + row[1] + ") behind others", x -> x.weeks((Long) row[0], (Integer) row[1]), row[2]);
        }
    }

    static WeekWheels seenOften(int times) {
        WeekWheels x = Due.town("law 5 4;law 7 6;house;");
        for (int i = 1; i <= times; i++) {
            x.seen(i % 2, 9, false);
        }
        return x;
    }

    // Promise 24: "SEEN: how many there are; -1: there are 20. IllegalArgumentException: ago (0 to 9)."
    static void seensAgoIs0To9() {
        Due.within(Due::busy, "seen's ago", (x, ago) -> x.seen(0, ago, true), 0, 9, Due.ARGUMENT);
        Due.refuses(Due::busy, "seen(3, 10): no such law is told first", x -> x.seen(3, 10, true), Due.ELEMENT);
        Due.refuses(Due::busy, "seen(-1, -1): no such law is told first", x -> x.seen(-1, -1, true), Due.ELEMENT);
        Due.refuses(WeekWheels::new, "seen(0, 0) without laws", x -> x.seen(0, 0, true), Due.ELEMENT);
        WeekWheels x = Due.town("law 24 23;");
        Due.due(x, "seen(0, 0, true)", y -> y.seen(0, 0, true), 1);
        Due.due(x, "fits(1)", y -> y.fits(1), 23);
        x.forget();
        Due.due(x, "seen(0, 9, true)", y -> y.seen(0, 9, true), 1);
        Due.due(x, "fits(1): 9 behind the 23rd", y -> y.fits(1), 8);
    }

    // Promise 24, by Terms: "SEEN: of LAWS on a DAY so many ahead of TODAY (0 to 9; 20 at most) whether they held."
    static void seenAre20AtMost() {
        WeekWheels x = Due.town("law 5 4;law 7 6;house;");
        for (int i = 1; i <= 20; i++) {
            Due.due(x, "seen the " + i + "th", y -> y.seen(0, 1, false), i);
        }
        Due.due(x, "seen the 21st", y -> y.seen(0, 0, true), -1);
        Due.due(x, "sums(0)", y -> y.sums(0), 20);
        Due.due(x, "fits(0): the 21st is none of them", y -> y.fits(0), 28);
        Due.due(x, "did counts for itself", y -> y.did(0, 0, 0, false), 1);
        Due.due(x, "forget()", WeekWheels::forget, 21);
        Due.due(x, "seen again", y -> y.seen(0, 0, true), 1);
        Due.keeps(() -> seenOften(20), "seen the 21st", y -> y.seen(0, 0, true), -1);
        Due.refuses(() -> seenOften(20), "seen the 21st, no such law", y -> y.seen(2, 0, true), Due.ELEMENT);
        Due.refuses(() -> seenOften(20), "seen the 21st, ago 10", y -> y.seen(0, 10, true), Due.ARGUMENT);
        Due.due(seenOften(19), "seen the 20th", y -> y.seen(0, 0, true), 20);
    }

    // Promise 25: "TODAY FITS: 0 how many, 1 the first, 2 the last (NONE)."
    static void fitsOfNoneOneAndAll() {
        Due.keeps(WeekWheels::new, "fits(0) without laws", x -> x.fits(0), 1);
        Due.keeps(WeekWheels::new, "fits(1) without laws", x -> x.fits(1), 0);
        Due.keeps(WeekWheels::new, "fits(2) without laws", x -> x.fits(2), 0);
        WeekWheels x = Due.town(LONGEST);
        Due.due(x, "fits(0): all of a turn", y -> y.fits(0), 99_484);
        Due.due(x, "fits(1)", y -> y.fits(1), 0);
        Due.due(x, "fits(2)", y -> y.fits(2), 99_483);
        for (int law = 0; law < 5; law++) {
            x.seen(law, 0, true);
        }
        Due.due(x, "fits(0): the last day alone", y -> y.fits(0), 1);
        Due.due(x, "fits(1)", y -> y.fits(1), 99_483);
        Due.due(x, "fits(2)", y -> y.fits(2), 99_483);
        x.seen(0, 0, false);
        Due.due(x, "fits(0): none", y -> y.fits(0), 0);
        Due.due(x, "fits(1): none", y -> y.fits(1), -1);
        Due.due(x, "fits(2): none", y -> y.fits(2), -1);
    }

    // Promise 25, by Terms: "TODAY FITS what a WHOLE TURN leaves of it (as if none was still): how many, the first, the last."
    static void fitsOverTheEndOfATurn() {
        for (int ago = 0; ago <= 9; ago++) {
            WeekWheels x = Due.town(LONGEST + "still 0;still 99483;");
            for (int law = 0; law < 5; law++) {
                x.seen(law, ago, true);
            }
            int a = ago;
            Due.due(x, "fits(0), seen " + a + " ago", y -> y.fits(0), 1);
            Due.due(x, "fits(1), seen " + a + " ago", y -> y.fits(1), a == 0 ? 99_483 : a - 1);
            Due.due(x, "fits(2), seen " + a + " ago", y -> y.fits(2), a == 0 ? 99_483 : a - 1);
        }
        // a turn shorter than the days that lie ahead of today
        WeekWheels two = Due.town("law 2 1;");
        two.seen(0, 9, true);
        Due.due(two, "fits(1): 9 ago a 1, so today a 0", y -> y.fits(1), 0);
        Due.due(two, "fits(2)", y -> y.fits(2), 0);
        two.seen(0, 8, false);
        Due.due(two, "fits(0)", y -> y.fits(0), 1);
        two.seen(0, 8, true);
        Due.due(two, "fits(0)", y -> y.fits(0), 0);
    }

    // Promise 26: "LOOK: 0 the LAW (NONE: there are none), 1 how many are left at the worst."
    static void lookWithoutLawsAndIfNoneOrOneFits() {
        Due.keeps(WeekWheels::new, "look(0) without laws", x -> x.look(0), -1);
        Due.keeps(WeekWheels::new, "look(1) without laws", x -> x.look(1), 1);
        Due.keeps(() -> Due.town("other 5 4;house;"), "look(0) without laws", x -> x.look(0), -1);
        WeekWheels x = Due.town("law 5 4;law 2 1;");
        Due.due(x, "look(0): 5 of ten are fewer than 8", y -> y.look(0), 1);
        Due.due(x, "look(1)", y -> y.look(1), 5);
        x.seen(1, 0, true);
        x.seen(0, 0, true);
        Due.due(x, "look(0): one fits, so the first", y -> y.look(0), 0);
        Due.due(x, "look(1): one fits", y -> y.look(1), 1);
        x.seen(0, 0, false);
        Due.due(x, "look(0): none fits, so the first", y -> y.look(0), 0);
        Due.due(x, "look(1): none fits", y -> y.look(1), 0);
    }

    // Promise 26, by Terms: "LOOK: the LAW by which, if one looks whether it holds today, fewest are left at the worst, of these the first."
    static void lookOfLikeLawsTheFirst() {
        Due.keeps(() -> Due.town("law2 0;".repeat(12)), "look(0)", x -> x.look(0), 0);
        Due.keeps(() -> Due.town("law2 0;".repeat(12)), "look(1)", x -> x.look(1), 1);
        Due.keeps(() -> Due.town("law3 0;".repeat(11) + "law2 0;"), "look(0): the last", x -> x.look(0), 11);
        Due.keeps(() -> Due.town("law3 0;".repeat(11) + "law2 0;"), "look(1)", x -> x.look(1), 3);
        Due.keeps(() -> Due.town("law 3 0;law 2 1;law 2 0;"), "look(0): 2 before like ones", x -> x.look(0), 1);
        WeekWheels x = Due.town("law 4 0;law 4 1;law 4 2;");
        x.seen(0, 0, false);
        Due.due(x, "look(0): one by which nothing is learnt is no more looked on", y -> y.look(0), 1);
        Due.due(x, "look(1)", y -> y.look(1), 2);
    }

    static WeekWheels didOften(int times) {
        WeekWheels x = Due.town("law 5 4;law 7 6;house;house;");
        for (int i = 1; i <= times; i++) {
            x.did(i % 2, 0, 0, false);
        }
        return x;
    }

    // Promise 27: "A HOUSE did: how many there are; -1: there are 20."
    static void didAre20AtMost() {
        WeekWheels x = Due.town("law 5 4;law 7 6;house;house;");
        for (int i = 1; i <= 20; i++) {
            int house = i % 2;
            Due.due(x, "did the " + i + "th", y -> y.did(house, 0, 0, false), i);
        }
        Due.due(x, "did the 21st", y -> y.did(0, 1, 0, true), -1);
        Due.due(x, "sums(1)", y -> y.sums(1), 20);
        Due.due(x, "slipped(0, 0): the 21st is none of them", y -> y.slipped(0, 0), 4 + 7);
        Due.due(x, "seen counts for itself", y -> y.seen(0, 0, false), 1);
        Due.due(x, "forget()", WeekWheels::forget, 21);
        Due.due(x, "did again", y -> y.did(0, 0, 0, false), 1);
        Due.keeps(() -> didOften(20), "did the 21st", y -> y.did(1, 1, 0, true), -1);
        Due.refuses(() -> didOften(20), "did the 21st, no such day", y -> y.did(0, 0, -1, true), Due.DAY);
        Due.refuses(() -> didOften(20), "did the 21st, no such house", y -> y.did(2, 0, 0, true), Due.ELEMENT);
        Due.refuses(() -> didOften(20), "did the 21st, no such law", y -> y.did(0, 2, 0, true), Due.ELEMENT);
        Due.due(didOften(19), "did the 20th", y -> y.did(0, 0, 0, true), 20);
    }

    // Promise 27, by Terms: "SLIPPED: of a HOUSE told what it did (LAW held, DAY; 20 at most)"
    static void didOnTheFirstAndTheLastDay() {
        WeekWheels x = Due.town("law 24 0;house;house;still 0;still 5;");
        x.did(0, 0, 0, true);
        Due.due(x, "slipped(0, 1): on the first day", y -> y.slipped(0, 1), 0);
        x.forget();
        // the last day leaves 15 by 24, less two stills 13
        x.did(0, 0, Due.LAST, true);
        Due.due(x, "slipped(0, 0): on the last day", y -> y.slipped(0, 0), 1);
        Due.due(x, "slipped(0, 1): on the last day", y -> y.slipped(0, 1), 11);
        Due.due(x, "slipped(1, 0): the other house did nothing", y -> y.slipped(1, 0), 24);
        WeekWheels last = Due.town(TWELVE_AND_TEN);
        Due.due(last, "did of the last house and law", y -> y.did(9, 11, 1, true), 1);
        Due.due(last, "slipped(9, 1)", y -> y.slipped(9, 1), 1123);
        Due.due(last, "did(10, 11)", y -> y.did(10, 11, 1, true), Due.ELEMENT);
        Due.due(last, "did(9, 12)", y -> y.did(9, 12, 1, true), Due.ELEMENT);
    }

    // Promise 28: "SLIPPED: 0 how many, 1 the first, 2 the LIKELIEST (NONE)."
    static void slippedOfNothingDoneAndOfNothingThatExplains() {
        Due.keeps(() -> Due.town("law 5 4;law 24 0;house;"), "slipped(0, 0): all explain", x -> x.slipped(0, 0), 29);
        Due.keeps(() -> Due.town("law 5 4;law 24 0;house;"), "slipped(0, 1)", x -> x.slipped(0, 1), 0);
        Due.keeps(() -> Due.town("law 5 4;law 24 0;house;"), "slipped(0, 2)", x -> x.slipped(0, 2), 0);
        Due.keeps(() -> Due.town("house;"), "slipped(0, 0) without laws", x -> x.slipped(0, 0), 0);
        Due.keeps(() -> Due.town("house;"), "slipped(0, 1) without laws", x -> x.slipped(0, 1), -1);
        Due.keeps(() -> Due.town("house;"), "slipped(0, 2) without laws", x -> x.slipped(0, 2), -1);
        WeekWheels x = Due.town("law 5 4;law 7 6;house;");
        x.did(0, 0, 0, true);
        x.did(0, 1, 0, true);
        for (int what = 0; what < 3; what++) {
            int w = what;
            Due.due(x, "slipped(0, " + w + "): two wheels must have slipped", y -> y.slipped(0, w), w == 0 ? 0 : -1);
        }
        Due.refuses(Due::busy, "slipped(2, 3): no such house is told first", y -> y.slipped(2, 3), Due.ELEMENT);
    }

    // Promise 28, by Terms: "S weighs 24 less the lesser of S and W less S: that of the most weight, of these the first."
    static void theLikeliestGoesOverTheEndOfAWeek() {
        WeekWheels x = Due.town("law 24 0;house;");
        // on these days it would hold by S of 0, 1, 2, 23, 22; what is left weighs less each time
        int[] days = {0, 23, 1, 22, 2, 21};
        int[] likeliest = {1, 23, 2, 22, 3, 21};
        for (int i = 0; i < days.length; i++) {
            int k = i;
            x.did(0, 0, days[i], false);
            Due.due(x, "slipped(0, 0)", y -> y.slipped(0, 0), 23 - k);
            Due.due(x, "slipped(0, 2)", y -> y.slipped(0, 2), likeliest[k]);
        }
        x.forget();
        x.did(0, 0, 12, true);
        Due.due(x, "slipped(0, 2): the least weight there is", y -> y.slipped(0, 2), 12);
        WeekWheels two = Due.town("law 2 1;law 3 2;house;");
        two.did(0, 0, 0, true);
        Due.due(two, "slipped(0, 2): 1 of 2", y -> y.slipped(0, 2), 1);
        WeekWheels more = Due.town("law 24 0;law 3 1;house;");
        more.did(0, 0, 0, true);
        more.did(0, 1, 2, false);
        Due.due(more, "slipped(0, 2): of one weight the first law", y -> y.slipped(0, 2), 0);
        Due.due(more, "slipped(0, 0): 0 of the first law, 0 and 1 of the other", y -> y.slipped(0, 0), 3);
    }

    // Promise 28, by Terms: "by S of one LAW, all others as told: how many such (LAW, S) explain all, the first (100 LAW and S)"
    static void slippedFirstAndLastLaw() {
        WeekWheels x = Due.town("law 5 4;law 24 0;house;slip 0 0 4;");
        x.did(0, 0, 0, true);
        x.did(0, 1, 1, true);
        Due.due(x, "slipped(0, 0): the first as told, the second slipped", y -> y.slipped(0, 0), 1);
        Due.due(x, "slipped(0, 1)", y -> y.slipped(0, 1), 123);
        Due.due(x, "slipped(0, 2)", y -> y.slipped(0, 2), 123);
        WeekWheels last = Due.town(TWELVE_AND_TEN);
        last.did(9, 11, 0, false);
        last.did(9, 11, 23, false);
        Due.due(last, "slipped(9, 0)", y -> y.slipped(9, 0), 22);
        Due.due(last, "slipped(9, 1)", y -> y.slipped(9, 1), 1102);
        Due.due(last, "slipped(9, 2)", y -> y.slipped(9, 2), 1123);
    }

    // Promise 29: "All that was SEEN, and that HOUSES did, goes: how many."
    static void forgetOfNoneAndOfAll() {
        Due.keeps(WeekWheels::new, "forget() of nothing", WeekWheels::forget, 0);
        WeekWheels x = seenOften(20);
        for (int i = 0; i < 20; i++) {
            x.did(0, 1, i, false);
        }
        x.work(1, 0);
        x.turn(0, 0, 3);
        Due.due(x, "forget() of all that may be", WeekWheels::forget, 40);
        Due.due(x, "sums(0)", y -> y.sums(0), 0);
        Due.due(x, "sums(1)", y -> y.sums(1), 0);
        Due.due(x, "sums(2): works stay", y -> y.sums(2), 1);
        Due.due(x, "slip(0, 0): wheels stay", y -> y.slip(0, 0), 3);
        Due.due(x, "fits(0)", y -> y.fits(0), 35);
        Due.due(x, "slipped(0, 0)", y -> y.slipped(0, 0), 12);
        Due.due(x, "forget() again", WeekWheels::forget, 0);
        Due.due(seenOften(1), "forget() of one seen", WeekWheels::forget, 1);
        Due.due(didOften(1), "forget() of one done", WeekWheels::forget, 1);
    }

    // Promise 30: "RIGHT: 0 how many, 1 those that stay."
    static void rightOfNoHouseOfOneAndOfTen() {
        Due.keeps(WeekWheels::new, "right(0) without houses", x -> x.right(0), 0);
        Due.keeps(WeekWheels::new, "right(1) without houses", x -> x.right(1), 0);
        Due.keeps(() -> Due.town("law 5 4;house;slip 0 0 3;"), "right(0) of one", x -> x.right(0), 0);
        Due.keeps(() -> Due.town("law 5 4;house;slip 0 0 3;"), "right(1) of one", x -> x.right(1), 1);
        Due.keeps(() -> Due.town("house;".repeat(10)), "right(1) without laws", x -> x.right(1), 1023);
        Due.keeps(() -> Due.town(TWELVE_AND_TEN), "right(0) of ten alike", x -> x.right(0), 0);
        Due.keeps(() -> Due.town(TWELVE_AND_TEN), "right(1) of ten alike", x -> x.right(1), 1023);
        WeekWheels x = Due.town(TWELVE_AND_TEN);
        for (int house = 0; house < 10; house++) {
            x.turn(house, 11, house + 1);
        }
        Due.due(x, "right(0): no two alike", y -> y.right(0), 9);
        Due.due(x, "right(1): the least house", y -> y.right(1), 1);
        x.turn(9, 11, 23);
        Due.due(x, "right(0): the last two alike", y -> y.right(0), 8);
        Due.due(x, "right(1): the last two alike", y -> y.right(1), 768);
    }

    // Promise 30, by Terms: "ALIKE are HOUSES with all S alike (as left by W)."
    static void alikeAsLeftByW() {
        WeekWheels x = Due.town("law 2 0;law 24 0;house;house;slip 0 1 23;");
        Due.due(x, "right(0)", y -> y.right(0), 1);
        Due.due(x, "turn(0, 1, 1)", y -> y.turn(0, 1, 1), 0);
        Due.due(x, "right(0): 24 is left 0", y -> y.right(0), 0);
        Due.due(x, "turn(0, 0, 998)", y -> y.turn(0, 0, 998), 0);
        Due.due(x, "right(0): 998 is left 0", y -> y.right(0), 0);
        Due.due(x, "turn(1, 0, 999)", y -> y.turn(1, 0, 999), 1);
        Due.due(x, "right(0): 999 is left 1", y -> y.right(0), 1);
        Due.due(x, "right(1)", y -> y.right(1), 1);
    }

    // Promise 30, by Terms: "those that may stay (of the greatest sets of ALIKE ones that with the least HOUSE; bits)."
    static void ofTheGreatestSetsThatWithTheLeastHouse() {
        WeekWheels x = Due.town("law 5 4;" + "house;".repeat(5) + "slip 0 0 3;slip 1 0 1;slip 3 0 1;slip 2 0 2;slip 4 0 2;");
        Due.due(x, "right(0): two of two, one alone", y -> y.right(0), 3);
        Due.due(x, "right(1): with house 1, not with 2", y -> y.right(1), 0b01010);
        x.turn(0, 0, 4);
        Due.due(x, "right(0): three are more", y -> y.right(0), 2);
        Due.due(x, "right(1): three are more", y -> y.right(1), 0b10101);
    }
}
