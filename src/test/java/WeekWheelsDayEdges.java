/** The document's sentences on days, wheels and sets of laws that name a boundary: promises 6 to 20. */
public final class WeekWheelsDayEdges {
    static final String TWELVE = "law2 0;".repeat(10) + "law3 0;law3 1;";
    /** The greatest WHOLE TURN that a calendar can have, 99,484: on its last day all five hold. */
    static final String LONGEST = "law4 3;law7 6;law11 10;law17 16;law19 18;";

    public static void main(String[] args) throws IllegalAccessException {
        Due.runAll(WeekWheelsDayEdges.class);
    }

    // Promise 6: "0 LAWS, 1 those of the other town, 2 HOUSES, 3 stills, 4 the WHOLE TURN, 5 that of both towns.
    // IllegalArgumentException: another what (so below)."
    static void toldsWhatIs0To5() {
        Due.within(WeekWheels::new, "told", (x, what) -> x.told(what), 0, 5, Due.ARGUMENT);
        Due.within(Due::busy, "told", (x, what) -> x.told(what), 0, 5, Due.ARGUMENT);
        int[] least = {0, 0, 0, 0, 1, 1};
        int[] greatest = {12, 6, 10, 3, 24, 24};
        String full = "law24 0;".repeat(12) + "other24 0;".repeat(6) + "house;".repeat(10) + "still1;still2;still3;";
        for (int i = 0; i < 6; i++) {
            int what = i;
            Due.keeps(() -> Due.town(""), "told(" + i + ")", x -> x.told(what), least[i]);
            Due.keeps(() -> Due.town(full), "told(" + i + ")", x -> x.told(what), greatest[i]);
        }
    }

    // Promise 6: "IllegalArgumentException: another what (so below)."
    static void anotherWhatSoBelow() {
        Due.within(Due::busy, "law", (x, what) -> x.law(0, what), 0, 1, Due.ARGUMENT);
        Due.within(Due::busy, "most", (x, what) -> x.most(what), 0, 1, Due.ARGUMENT);
        Due.within(Due::busy, "free", (x, what) -> x.free(1, 5, what), 0, 1, Due.ARGUMENT);
        Due.within(Due::busy, "fits", (x, what) -> x.fits(what), 0, 2, Due.ARGUMENT);
        Due.within(Due::busy, "look", (x, what) -> x.look(what), 0, 1, Due.ARGUMENT);
        Due.within(Due::busy, "slipped", (x, what) -> x.slipped(0, what), 0, 2, Due.ARGUMENT);
        Due.within(Due::busy, "right", (x, what) -> x.right(what), 0, 1, Due.ARGUMENT);
        Due.within(Due::busy, "soonest", (x, what) -> x.soonest(0, what), 0, 1, Due.ARGUMENT);
        Due.within(WeekWheels::new, "most without laws", (x, what) -> x.most(what), 0, 1, Due.ARGUMENT);
        Due.within(WeekWheels::new, "fits without laws", (x, what) -> x.fits(what), 0, 2, Due.ARGUMENT);
        Due.within(WeekWheels::new, "look without laws", (x, what) -> x.look(what), 0, 1, Due.ARGUMENT);
        Due.within(WeekWheels::new, "right without houses", (x, what) -> x.right(what), 0, 1, Due.ARGUMENT);
        Due.within(WeekWheels::new, "soonest without works", (x, what) -> x.soonest(0, what), 0, 1, Due.ARGUMENT);
    }

    // Promise 7: "Of a LAW: 0 W, 1 D. NoSuchElementException: no such LAW, HOUSE, WORK (so below)."
    static void lawsLawIsOneThatIsTold() {
        Due.within(Due::busy, "law", (x, law) -> x.law(law, 0), 0, 2, Due.ELEMENT);
        Due.within(() -> Due.town(TWELVE), "law of twelve", (x, law) -> x.law(law, 1), 0, 11, Due.ELEMENT);
        Due.refuses(() -> Due.town("other 5 4;house;"), "law(0, 0) without laws", x -> x.law(0, 0), Due.ELEMENT);
        Due.keeps(Due::busy, "law(0, 0)", x -> x.law(0, 0), 5);
        Due.keeps(Due::busy, "law(0, 1)", x -> x.law(0, 1), 4);
        Due.keeps(Due::busy, "law(2, 0)", x -> x.law(2, 0), 4);
        Due.keeps(Due::busy, "law(2, 1)", x -> x.law(2, 1), 3);
        Due.refuses(Due::busy, "law(3, 2): no such law is told first", x -> x.law(3, 2), Due.ELEMENT);
    }

    // Promise 7: "NoSuchElementException: no such LAW, HOUSE, WORK (so below)."
    static void noSuchLawHouseOrWorkSoBelow() {
        Due.within(Due::busy, "slip's house", (x, house) -> x.slip(house, 0), 0, 1, Due.ELEMENT);
        Due.within(Due::busy, "slip's law", (x, law) -> x.slip(0, law), 0, 2, Due.ELEMENT);
        Due.within(Due::busy, "turn's house", (x, house) -> x.turn(house, 0, 1), 0, 1, Due.ELEMENT);
        Due.within(Due::busy, "turn's law", (x, law) -> x.turn(0, law, 1), 0, 2, Due.ELEMENT);
        Due.within(Due::busy, "inHouse's house", (x, house) -> x.inHouse(0, house), 0, 1, Due.ELEMENT);
        Due.within(Due::busy, "seen's law", (x, law) -> x.seen(law, 0, true), 0, 2, Due.ELEMENT);
        Due.within(Due::busy, "did's house", (x, house) -> x.did(house, 0, 0, true), 0, 1, Due.ELEMENT);
        Due.within(Due::busy, "did's law", (x, law) -> x.did(0, law, 0, true), 0, 2, Due.ELEMENT);
        Due.within(Due::busy, "slipped's house", (x, house) -> x.slipped(house, 0), 0, 1, Due.ELEMENT);
        Due.within(Due::busy, "done's work", (x, work) -> x.done(work, 0), 0, 1, Due.ELEMENT);
        Due.within(Due::busy, "begun's work", (x, work) -> x.begun(work, 0), 0, 1, Due.ELEMENT);
        Due.within(Due::busy, "thief's a", (x, law) -> x.thief(law, 1 - law / 2), 0, 2, Due.ELEMENT);
        Due.within(Due::busy, "thief's b", (x, law) -> x.thief(1 - law / 2, law), 0, 2, Due.ELEMENT);
        Due.within(Due::busy, "guard's a", (x, law) -> x.guard(law, 1 - law / 2), 0, 2, Due.ELEMENT);
        Due.within(Due::busy, "guard's b", (x, law) -> x.guard(1 - law / 2, law), 0, 2, Due.ELEMENT);
    }

    // Promise 7: "NoSuchElementException: no such LAW, HOUSE, WORK (so below)."
    static void noneAtAllSoBelow() {
        Due.refuses(() -> Due.town("law 5 4;"), "slip without houses", x -> x.slip(0, 0), Due.ELEMENT);
        Due.refuses(() -> Due.town("house;"), "slip without laws", x -> x.slip(0, 0), Due.ELEMENT);
        Due.refuses(() -> Due.town("house;"), "turn without laws", x -> x.turn(0, 0, 0), Due.ELEMENT);
        Due.refuses(() -> Due.town("law 5 4;"), "inHouse without houses", x -> x.inHouse(0, 0), Due.ELEMENT);
        Due.keeps(() -> Due.town("house;"), "inHouse without laws", x -> x.inHouse(0, 0), 0);
        Due.refuses(() -> Due.town("other 5 4;"), "seen without laws", x -> x.seen(0, 0, true), Due.ELEMENT);
        Due.refuses(() -> Due.town("house;"), "did without laws", x -> x.did(0, 0, 0, true), Due.ELEMENT);
        Due.refuses(() -> Due.town("law 5 4;"), "did without houses", x -> x.did(0, 0, 0, true), Due.ELEMENT);
        Due.refuses(() -> Due.town("law 5 4;"), "slipped without houses", x -> x.slipped(0, 0), Due.ELEMENT);
        Due.refuses(() -> Due.town("law 5 4;"), "done without works", x -> x.done(0, 0), Due.ELEMENT);
        Due.refuses(() -> Due.town("law 5 4;"), "begun without works", x -> x.begun(0, 0), Due.ELEMENT);
        Due.refuses(() -> Due.town("law 5 4;"), "thief with one law", x -> x.thief(0, 1), Due.ELEMENT);
        Due.refuses(() -> Due.town("law 5 4;"), "guard with one law", x -> x.guard(1, 0), Due.ELEMENT);
    }

    // Promise 8: "How far ahead a WHEEL is in a HOUSE."
    static void slipOfTheFirstAndTheLastWheel() {
        WeekWheels x = Due.town("law2 0;".repeat(11) + "law24 0;" + "house;".repeat(10) + "slip0 0 1;slip9 11 23;slip9 0 1;slip0 11 22;");
        Due.due(x, "slip(0, 0)", y -> y.slip(0, 0), 1);
        Due.due(x, "slip(9, 11)", y -> y.slip(9, 11), 23);
        Due.due(x, "slip(9, 0)", y -> y.slip(9, 0), 1);
        Due.due(x, "slip(0, 11)", y -> y.slip(0, 11), 22);
        Due.due(x, "slip(1, 0)", y -> y.slip(1, 0), 0);
        Due.due(x, "slip(8, 11)", y -> y.slip(8, 11), 0);
        Due.due(x, "slip(10, 0)", y -> y.slip(10, 0), Due.ELEMENT);
        Due.due(x, "slip(0, 12)", y -> y.slip(0, 12), Due.ELEMENT);
        Due.due(x, "slip(-1, 0)", y -> y.slip(-1, 0), Due.ELEMENT);
        Due.due(x, "slip(1, -1)", y -> y.slip(1, -1), Due.ELEMENT);
    }

    // Promise 9: "A WHEEL is turned on by so many (0 to 999): how far ahead it is then."
    static void turnsByIs0To999() {
        Due.within(Due::busy, "turn by", (x, by) -> x.turn(0, 0, by), 0, 999, Due.ARGUMENT);
        Due.keeps(Due::busy, "turn by 0", x -> x.turn(0, 1, 0), 2);
        Due.refuses(Due::busy, "turn(2, 0, 1000): no such house is told first", x -> x.turn(2, 0, 1000), Due.ELEMENT);
        Due.refuses(Due::busy, "turn(0, 3, -1): no such law is told first", x -> x.turn(0, 3, -1), Due.ELEMENT);
    }

    // Promise 9: "A WHEEL is turned on by so many (0 to 999): how far ahead it is then."
    static void turnGoesOnBehindTheLastDayOfAWeek() {
        for (int week = 2; week <= 24; week++) {
            int w = week;
            WeekWheels x = Due.town("law " + week + " 0;law 7 0;house;house;");
            Due.due(x, "turn by W less 1", y -> y.turn(0, 0, w - 1), w - 1);
            Due.due(x, "slip", y -> y.slip(0, 0), w - 1);
            Due.due(x, "turn by 1: 0 again", y -> y.turn(0, 0, 1), 0);
            Due.due(x, "slip", y -> y.slip(0, 0), 0);
            Due.due(x, "turn by W", y -> y.turn(0, 0, w), 0);
            Due.due(x, "turn by 999", y -> y.turn(0, 0, 999), 999 % w);
            Due.due(x, "turn by 999 again", y -> y.turn(0, 0, 999), 1998 % w);
            Due.due(x, "the other law's wheel", y -> y.slip(0, 1), 0);
            Due.due(x, "the other house's wheel", y -> y.slip(1, 0), 0);
        }
    }

    // Promise 10: "TURNED on a DAY. IndexOutOfBoundsException: no such DAY (so below, ahead of others)."
    static void turnedOnTheFirstAndTheLastDay() {
        Due.within(WeekWheels::new, "turned", (x, day) -> x.turned(day), 0, Due.LAST, Due.DAY);
        Due.within(Due::busy, "turned", (x, day) -> x.turned(day), 0, Due.LAST, Due.DAY);
        Due.keeps(WeekWheels::new, "turned(0)", x -> x.turned(0), 0);
        Due.keeps(WeekWheels::new, "turned(LAST)", x -> x.turned(Due.LAST), 999_999_999);
        Due.keeps(Due::busy, "turned(LAST)", x -> x.turned(Due.LAST), 999_999_998);
    }

    // Promise 10, by Terms: "DAYS are 0 to 999,999,999."
    static void daysAre0To999999999() {
        Due.within(Due::busy, "holds", (x, day) -> x.holds(day), 0, 999_999_999, Due.DAY);
        Due.within(Due::busy, "inHouse", (x, day) -> x.inHouse(day, 0), 0, 999_999_999, Due.DAY);
        Due.within(Due::busy, "clashes", (x, day) -> x.clashes(day), 0, 999_999_999, Due.DAY);
        Due.within(Due::busy, "such", (x, day) -> x.such(day), 0, 999_999_999, Due.DAY);
        Due.within(Due::busy, "next", (x, day) -> x.next(day), 0, 999_999_999, Due.DAY);
        Due.within(Due::busy, "row", (x, day) -> x.row(day, 1), 0, 999_999_999, Due.DAY);
        Due.within(Due::busy, "did", (x, day) -> x.did(0, 0, day, true), 0, 999_999_999, Due.DAY);
        Due.within(Due::busy, "done", (x, day) -> x.done(0, day), 0, 999_999_999, Due.DAY);
        Due.within(Due::busy, "begun", (x, day) -> x.begun(0, day), 0, 999_999_999, Due.DAY);
        Due.within(Due::busy, "soonest", (x, day) -> x.soonest(day, 0), 0, 999_999_999, Due.DAY);
        Due.within(Due::busy, "market", (x, day) -> x.market(day, 0, 0), 0, 999_999_999, Due.DAY);
    }

    // Promise 10: "no such DAY (so below, ahead of others)."
    static void noSuchDayIsToldAheadOfOthers() {
        for (int day : new int[] {-1, 1_000_000_000}) {
            int no = day;
            Due.refuses(Due::busy, "inHouse", x -> x.inHouse(no, 2), Due.DAY);
            Due.refuses(Due::busy, "row", x -> x.row(no, 0), Due.DAY);
            Due.refuses(Due::busy, "row", x -> x.row(no, 100), Due.DAY);
            Due.refuses(Due::busy, "did, no house", x -> x.did(2, 0, no, true), Due.DAY);
            Due.refuses(Due::busy, "did, no law", x -> x.did(0, 3, no, true), Due.DAY);
            Due.refuses(Due::busy, "done", x -> x.done(2, no), Due.DAY);
            Due.refuses(Due::busy, "begun", x -> x.begun(-1, no), Due.DAY);
            Due.refuses(Due::busy, "soonest", x -> x.soonest(no, 2), Due.DAY);
            Due.refuses(Due::busy, "market, no laws", x -> x.market(no, 8, 0), Due.DAY);
            Due.refuses(Due::busy, "market, no others", x -> x.market(no, 0, 2), Due.DAY);
        }
    }

    // Promise 10, by Terms: "TURNED on a DAY are WHEELS as often as its number, less stills ahead of it."
    static void aStillCountsFromTheDayBehindItOn() {
        WeekWheels x = Due.town("still 7;still 0;still 8;");
        int[] turned = {0, 0, 1, 2, 3, 4, 5, 6, 6, 6, 7};
        for (int day = 0; day < turned.length; day++) {
            int d = day;
            Due.due(x, "turned(" + d + ")", y -> y.turned(d), turned[d]);
        }
        Due.due(x, "turned(LAST)", y -> y.turned(Due.LAST), 999_999_996);
        WeekWheels last = Due.town("still 99999;still 99998;still 99997;");
        Due.due(last, "turned(99997)", y -> y.turned(99_997), 99_997);
        Due.due(last, "turned(99998)", y -> y.turned(99_998), 99_997);
        Due.due(last, "turned(99999)", y -> y.turned(99_999), 99_997);
        Due.due(last, "turned(100000)", y -> y.turned(100_000), 99_997);
        Due.due(last, "turned(100001)", y -> y.turned(100_001), 99_998);
    }

    // Promise 11, by Terms: "A LAW HOLDS on a DAY, if what that leaves by W is D"
    static void holdsOnTheFirstAndTheLastDay() {
        // the last day leaves 1 by 2, 15 by 24
        WeekWheels x = Due.town("law 2 0;law 2 1;law 24 0;law 24 23;law 24 15;");
        Due.due(x, "holds(0)", y -> y.holds(0), 0b00101);
        Due.due(x, "holds(1)", y -> y.holds(1), 0b00010);
        Due.due(x, "holds(23)", y -> y.holds(23), 0b01010);
        Due.due(x, "holds(24)", y -> y.holds(24), 0b00101);
        Due.due(x, "holds(LAST)", y -> y.holds(Due.LAST), 0b10010);
        Due.due(x, "holds(LAST + 1)", y -> y.holds(Due.LAST + 1), Due.DAY);
        WeekWheels z = Due.town("law 24 15;law 24 14;still 99999;");
        Due.due(z, "holds(LAST) behind a still", y -> y.holds(Due.LAST), 2);
        WeekWheels still = Due.town("law 5 3;still 3;");
        Due.due(still, "holds(3), the still itself", y -> y.holds(3), 1);
        Due.due(still, "holds(4), behind it", y -> y.holds(4), 1);
        Due.due(still, "holds(5)", y -> y.holds(5), 0);
    }

    // Promise 12, by Terms: "in a HOUSE, if that and S leaves D."
    static void inHouseGoesOnBehindTheLastDayOfAWeek() {
        WeekWheels x = Due.town("law 5 0;law 24 14;house;house;slip 0 0 4;slip 0 1 23;");
        Due.due(x, "inHouse(0, 0)", y -> y.inHouse(0, 0), 0);
        Due.due(x, "inHouse(1, 0): 1 and 4 leaves 0", y -> y.inHouse(1, 0), 1);
        Due.due(x, "inHouse(0, 1)", y -> y.inHouse(0, 1), 1);
        Due.due(x, "inHouse(15, 0): 15 and 23 leaves 14", y -> y.inHouse(15, 0), 2);
        Due.due(x, "inHouse(LAST, 0): 15 and 23 leaves 14", y -> y.inHouse(Due.LAST, 0), 2);
        Due.due(x, "inHouse(LAST, 1)", y -> y.inHouse(Due.LAST, 1), 0);
        Due.due(x, "inHouse(0, 2)", y -> y.inHouse(0, 2), Due.ELEMENT);
        Due.due(x, "inHouse(0, -1)", y -> y.inHouse(0, -1), Due.ELEMENT);
        Due.keeps(() -> Due.town("law 5 0;" + "house;".repeat(10)), "inHouse(0, 9)", y -> y.inHouse(0, 9), 1);
        Due.refuses(() -> Due.town("law 5 0;" + "house;".repeat(10)), "inHouse(0, 10)", y -> y.inHouse(0, 10), Due.ELEMENT);
    }

    // Promise 13: "Of how many HOUSES some LAW holds otherwise than by the town."
    static void clashesOfNoneAndOfAllHouses() {
        Due.keeps(WeekWheels::new, "clashes(0) without houses", x -> x.clashes(0), 0);
        Due.keeps(() -> Due.town("house;house;"), "clashes(0) without laws", x -> x.clashes(0), 0);
        WeekWheels x = Due.town("law 5 0;law 7 6;" + "house;".repeat(10));
        Due.due(x, "clashes(0): all as told", y -> y.clashes(0), 0);
        for (int house = 0; house < 10; house++) {
            int h = house;
            Due.due(x, "turn", y -> y.turn(h, 0, 1), 1);
            Due.due(x, "clashes(0): it holds by the town alone", y -> y.clashes(0), h + 1);
            Due.due(x, "clashes(4): it holds in houses alone", y -> y.clashes(4), h + 1);
            Due.due(x, "clashes(2): it holds nowhere", y -> y.clashes(2), 0);
        }
        Due.due(x, "turn another wheel too", y -> y.turn(3, 1, 6), 6);
        Due.due(x, "clashes(0): two laws of a house, one house", y -> y.clashes(0), 10);
        Due.due(x, "clashes(7): that house alone", y -> y.clashes(7), 1);
        Due.due(x, "clashes(LAST)", y -> y.clashes(Due.LAST), 10);
    }

    // Promise 14: "Whether the WISH holds on a DAY."
    static void suchOnTheFirstAndTheLastDay() {
        // the last day leaves 1 by 2, 9 by 99, 4 by 5
        WeekWheels x = Due.town("law 5 4;law 5 3;house;slip 0 0 4;other 2 1;");
        Object[][] wishes = {{"law 0", false, true}, {"law 1", false, false}, {"many 1", false, true}, {"many 0", true, false},
            {"day 99 0", true, false}, {"day 99 9", false, true}, {"house 0 0", true, false}, {"house 0 1", false, false},
            {"town 0", false, true}, {"not law 0", true, false}, {"law 0 and town 0 or day 99 0", true, true}};
        for (Object[] w : wishes) {
            Due.due(x, "wish", y -> Due.ask(y, (String) w[0]), 1);
            Due.due(x, "such(0) of " + w[0], y -> y.such(0), w[1]);
            Due.due(x, "such(LAST) of " + w[0], y -> y.such(Due.LAST), w[2]);
        }
        Due.due(x, "such(-1)", y -> y.such(-1), Due.DAY);
        Due.due(x, "such(LAST + 1)", y -> y.such(Due.LAST + 1), Due.DAY);
    }

    // Promise 15, by Terms: "NEXT: the first DAY from one on (to the last one) on which the WISH holds."
    static void nextUpToTheLastDay() {
        WeekWheels x = Due.town("law 5 4;law 5 3;");
        Due.ask(x, "law 0");
        Due.due(x, "next(4): the day itself", y -> y.next(4), 4);
        Due.due(x, "next(5)", y -> y.next(5), 9);
        Due.due(x, "next(LAST - 4)", y -> y.next(Due.LAST - 4), Due.LAST);
        Due.due(x, "next(LAST)", y -> y.next(Due.LAST), Due.LAST);
        Due.ask(x, "law 1");
        Due.due(x, "next(LAST - 1)", y -> y.next(Due.LAST - 1), Due.LAST - 1);
        Due.due(x, "next(LAST): never", y -> y.next(Due.LAST), -1);
        WeekWheels z = new WeekWheels();
        Due.ask(z, "day 99 10");
        Due.due(z, "next(LAST - 98)", y -> y.next(Due.LAST - 98), Due.LAST - 98);
        Due.due(z, "next(LAST - 97): never", y -> y.next(Due.LAST - 97), -1);
        Due.ask(z, "day3 2 and day25 24 and day31 30 and day43 42");
        Due.due(z, "next of the longest turn, the last time", y -> y.next(999_849_975), 999_949_949);
        Due.due(z, "next of the longest turn, that day", y -> y.next(999_949_949), 999_949_949);
        Due.due(z, "next of the longest turn, behind it", y -> y.next(999_949_950), -1);
    }

    // Promise 15, by Terms: "NEXT: the first DAY from one on (to the last one) on which the WISH holds."
    static void nextOnTheLastDayOfATurnBehindAStill() {
        // of 65 days behind the still (5 of the law, 13 of the wish) it holds on the last alone, on none ahead of it
        WeekWheels x = Due.town("law 5 4;still 5;");
        Due.ask(x, "law 0 and day 13 5");
        Due.due(x, "next(0)", y -> y.next(0), 70);
        Due.due(x, "next(6)", y -> y.next(6), 70);
        Due.due(x, "next(70)", y -> y.next(70), 70);
        Due.due(x, "next(71)", y -> y.next(71), 135);
        WeekWheels z = Due.town("law 2 0;still 5;");
        Due.ask(z, "law 0 and day 99 5");
        Due.due(z, "next(0): of 198 days", y -> y.next(0), 203);
        Due.due(z, "next(204): of 198 days", y -> y.next(204), 401);
    }

    // Promise 15: "NEXT; NONE: never."
    static void nextNever() {
        WeekWheels x = Due.town("law 5 4;law 5 3;still 3;still 7;");
        Due.ask(x, "law 0 and law 1");
        Due.due(x, "next(0)", y -> y.next(0), -1);
        Due.ask(x, "law 0 and not law 0");
        Due.due(x, "next(0)", y -> y.next(0), -1);
        Due.ask(x, "many 3");
        Due.due(x, "next(0)", y -> y.next(0), -1);
        WeekWheels z = Due.town("law 2 0;still 99999;");
        Due.ask(z, "law 0 and day 2 0");
        Due.due(z, "next(99998): the last ahead of the still", y -> y.next(99_998), 99_998);
        Due.due(z, "next(99999): never behind it", y -> y.next(99_999), -1);
        Due.ask(z, "law 0 and day 2 1");
        Due.due(z, "next(0): only behind the still", y -> y.next(0), 100_001);
        WeekWheels longest = Due.town(LONGEST + "still 0;still 1;still 2;");
        Due.ask(longest, "many 5");
        Due.due(longest, "next(0): the last day of the turn, and three stills", y -> y.next(0), 99_486);
        Due.due(longest, "next(99487)", y -> y.next(99_487), 198_970);
        Due.ask(longest, "many 5 and day 4 3");
        Due.due(longest, "next(0): behind three stills never on such a day", y -> y.next(0), -1);
        WeekWheels once = Due.town("law 2 0;law 3 0;still 40;");
        Due.ask(once, "law 0 and law 1 and day 6 0");
        Due.due(once, "next(31): once more ahead of the still", y -> y.next(31), 36);
        Due.due(once, "next(37): never behind it", y -> y.next(37), -1);
    }

    // Promise 16: "Of some LAWS (bits) the first two (100 times the lesser, and the other one) that can't be TOGETHER; NONE: all can."
    static void neverOfNoneOneAndAllLaws() {
        Due.keeps(WeekWheels::new, "never(0) without laws", x -> x.never(0), -1);
        Due.keeps(() -> Due.town("law 5 4;"), "never(1)", x -> x.never(1), -1);
        WeekWheels x = Due.town(TWELVE);
        Due.due(x, "never(0)", y -> y.never(0), -1);
        Due.due(x, "never(4095): the last two", y -> y.never(4095), 1011);
        Due.due(x, "never of just the last two", y -> y.never(3072), 1011);
        Due.due(x, "never of the last", y -> y.never(2048), -1);
        Due.due(x, "never without the last", y -> y.never(2047), -1);
        WeekWheels z = Due.town("law4 0;law3 0;law3 1;" + "law5 0;".repeat(8) + "law4 1;");
        Due.due(z, "never(4095): the lesser comes first", y -> y.never(4095), 11);
        Due.due(z, "never(4094)", y -> y.never(4094), 102);
        Due.due(Due.town("law 2 0;law 2 1;law 2 1;"), "never(7): of one lesser the other first", y -> y.never(7), 1);
        Due.due(Due.town("law 2 0;law 2 1;law 2 1;"), "never(5)", y -> y.never(5), 2);
    }

    // Promise 16: "IllegalArgumentException: bits of no LAWS (so below)."
    static void bitsOfNoLawsSoBelow() {
        Due.within(WeekWheels::new, "never without laws", (x, laws) -> x.never(laws), 0, 0, Due.ARGUMENT);
        Due.within(() -> Due.town("other 5 4;"), "never, others alone", (x, laws) -> x.never(laws), 0, 0, Due.ARGUMENT);
        Due.within(() -> Due.town(TWELVE), "never of twelve", (x, laws) -> x.never(laws), 0, 4095, Due.ARGUMENT);
        Due.within(Due::busy, "never", (x, laws) -> x.never(laws), 0, 7, Due.ARGUMENT);
        Due.within(Due::busy, "together", (x, laws) -> x.together(laws), 0, 7, Due.ARGUMENT);
        Due.within(() -> Due.town(TWELVE), "together of twelve", (x, laws) -> x.together(laws), 0, 4095, Due.ARGUMENT);
        Due.within(Due::busy, "free", (x, laws) -> x.free(laws, 0, 0), 0, 7, Due.ARGUMENT);
        Due.within(Due::busy, "meeting", (x, laws) -> x.meeting(laws), 0, 7, Due.ARGUMENT);
        Due.within(Due::busy, "work", (x, laws) -> x.work(1, laws), 0, 7, Due.ARGUMENT);
        Due.within(Due::busy, "trade", (x, laws) -> x.trade(laws, 0), 0, 7, Due.ARGUMENT);
        Due.within(Due::busy, "market", (x, laws) -> x.market(0, laws, 0), 0, 7, Due.ARGUMENT);
        Due.refuses(Due::busy, "never(9): one that is told, one that is not", x -> x.never(9), Due.ARGUMENT);
    }

    // Promise 16, by Terms: "TWO LAWS can be TOGETHER, if both hold on some DAY (of all that may ever be)"
    static void togetherOnSomeDayOfAllThatMayBe() {
        // on just one of 552 days, the last; of weeks that 2 divides on no day, unless their days are both even or both odd
        Due.keeps(() -> Due.town("law 24 23;law 23 22;"), "never(3)", x -> x.never(3), -1);
        Due.keeps(() -> Due.town("law 24 23;law 22 20;"), "never(3)", x -> x.never(3), 1);
        Due.keeps(() -> Due.town("law 24 23;law 22 21;"), "never(3)", x -> x.never(3), -1);
        Due.keeps(() -> Due.town("law 24 0;law 24 23;"), "never(3)", x -> x.never(3), 1);
        Due.keeps(() -> Due.town("law 24 23;law 24 23;"), "never(3)", x -> x.never(3), -1);
        Due.keeps(() -> Due.town("law 2 0;law 2 1;still 0;"), "never(3): on no day, with a still too", x -> x.never(3), 1);
    }

    // Promise 17: "The first DAY, as if none was still, on which all of these hold; NONE."
    static void togetherOfNoneAndOnTheLastDayOfATurn() {
        Due.keeps(WeekWheels::new, "together(0) without laws", x -> x.together(0), 0);
        Due.keeps(Due::busy, "together(0)", x -> x.together(0), 0);
        Due.keeps(() -> Due.town(LONGEST), "together(31)", x -> x.together(31), 99_483);
        Due.keeps(() -> Due.town(LONGEST + "still 0;still 1;still 2;"), "together(31): none was still", x -> x.together(31), 99_483);
        Due.keeps(() -> Due.town("law2 0;".repeat(12)), "together(4095), the first day", x -> x.together(4095), 0);
        Due.keeps(() -> Due.town("law 24 23;"), "together(1)", x -> x.together(1), 23);
        Due.keeps(() -> Due.town("law 2 0;law 2 1;"), "together(3)", x -> x.together(3), -1);
        Due.keeps(() -> Due.town("law 2 0;law 3 0;law 4 3;"), "together(7): one of three can't", x -> x.together(7), -1);
        Due.keeps(() -> Due.town("law 2 0;law 3 0;law 4 3;"), "together(6)", x -> x.together(6), 3);
    }

    // Promise 18, by Terms: "MOST: of all sets that can be the one of the most LAWS, of these the least (bits)."
    static void mostOfNoneAndOfAllLaws() {
        Due.keeps(WeekWheels::new, "most(0) without laws", x -> x.most(0), 0);
        Due.keeps(WeekWheels::new, "most(1) without laws", x -> x.most(1), 0);
        Due.keeps(() -> Due.town("law 2 1;"), "most(1) of one", x -> x.most(1), 1);
        Due.keeps(() -> Due.town("law2 0;".repeat(12)), "most(0) of all twelve", x -> x.most(0), 12);
        Due.keeps(() -> Due.town("law2 0;".repeat(12)), "most(1) of all twelve", x -> x.most(1), 4095);
        Due.keeps(() -> Due.town(TWELVE), "most(0) of eleven", x -> x.most(0), 11);
        Due.keeps(() -> Due.town(TWELVE), "most(1): the least, without the last", x -> x.most(1), 2047);
        Due.keeps(() -> Due.town("law 4 0;law 4 1;law 4 1;law 4 0;"), "most(1): 6 is less than 9", x -> x.most(1), 6);
        Due.keeps(() -> Due.town("law 2 0;law 2 1;law 2 1;"), "most(1): more laws count more", x -> x.most(1), 6);
        String apart = "law24 0;law24 1;law24 2;law24 3;law24 4;law24 5;law24 6;law24 7;law24 8;law24 9;law24 10;law24 11;";
        Due.keeps(() -> Due.town(apart), "most(0): no two can", x -> x.most(0), 1);
        Due.keeps(() -> Due.town(apart), "most(1): the first", x -> x.most(1), 1);
    }

    // Promise 19: "COUNT. IllegalArgumentException: k (0 to 12)."
    static void countsKIs0To12() {
        Due.within(WeekWheels::new, "count without laws", (x, k) -> x.count(k), 0, 12, Due.ARGUMENT);
        Due.within(Due::busy, "count", (x, k) -> x.count(k), 0, 12, Due.ARGUMENT);
        Due.within(() -> Due.town("law2 0;".repeat(12)), "count of twelve", (x, k) -> x.count(k), 0, 12, Due.ARGUMENT);
        Due.keeps(WeekWheels::new, "count(0) without laws", x -> x.count(0), 1);
        Due.keeps(WeekWheels::new, "count(1) without laws", x -> x.count(1), 0);
        Due.keeps(WeekWheels::new, "count(12) without laws", x -> x.count(12), 0);
        Due.keeps(() -> Due.town("law2 0;".repeat(12)), "count(12)", x -> x.count(12), 1);
        Due.keeps(() -> Due.town("law2 0;".repeat(12)), "count(11)", x -> x.count(11), 0);
        Due.keeps(() -> Due.town("law2 0;".repeat(12)), "count(0)", x -> x.count(0), 1);
        // of 210 days: on even ones eight hold and those of 3, 5 and 7, on odd ones those alone
        int[] days = {48, 44, 12, 1, 0, 0, 0, 0, 48, 44, 12, 1, 0};
        WeekWheels x = Due.town("law2 0;".repeat(8) + "law3 0;law5 0;law7 0;");
        for (int i = 0; i <= 12; i++) {
            int k = i;
            Due.due(x, "count(" + k + ")", y -> y.count(k), days[k]);
        }
    }

    // Promise 19, by Terms: "COUNT k: of a WHOLE TURN (as if none was still) the DAYS on which just k LAWS hold."
    static void countOfTheLeastAndTheGreatestTurn() {
        Due.keeps(() -> Due.town("law 2 1;other 3 0;"), "count(0): the other town is none of it", x -> x.count(0), 1);
        Due.keeps(() -> Due.town("law 2 1;other 3 0;"), "count(1)", x -> x.count(1), 1);
        int all = 0;
        for (int k = 0; k <= 12; k++) {
            all += Due.town(LONGEST).count(k);
        }
        Due.same("all counts of a turn", all, 99_484);
        Due.keeps(() -> Due.town(LONGEST), "count(0)", x -> x.count(0), 3 * 6 * 10 * 16 * 18);
        Due.keeps(() -> Due.town(LONGEST), "count(5), the last day alone", x -> x.count(5), 1);
        Due.keeps(() -> Due.town(LONGEST + "still 99483;still 99482;"), "count(5), as if none was still", x -> x.count(5), 1);
        Due.keeps(() -> Due.town(LONGEST), "count(6)", x -> x.count(6), 0);
    }

    // Promise 20: "ROW of r (1 to 99); NONE: there is none."
    static void rowsRIs1To99() {
        Due.within(WeekWheels::new, "row without laws", (x, r) -> x.row(0, r), 1, 99, Due.ARGUMENT);
        Due.within(Due::busy, "row", (x, r) -> x.row(5, r), 1, 99, Due.ARGUMENT);
        Due.keeps(WeekWheels::new, "row(0, 99)", x -> x.row(0, 99), 0);
        Due.keeps(() -> Due.town("law 24 0;"), "row(0, 23)", x -> x.row(0, 23), 1);
        Due.keeps(() -> Due.town("law 24 0;"), "row(0, 24): there is none", x -> x.row(0, 24), -1);
        Due.keeps(() -> Due.town("law 2 0;law 2 1;"), "row(0, 1): there is none", x -> x.row(0, 1), -1);
        for (int week = 2; week <= 24; week++) {
            int w = week;
            WeekWheels x = Due.town("law " + w + " " + (w - 1) + ";");
            Due.due(x, "row(0, W less 1) of W " + w, y -> y.row(0, w - 1), 0);
            Due.due(x, "row(1, W less 1) of W " + w, y -> y.row(1, w - 1), w);
            Due.due(x, "row(0, W) of W " + w + ": there is none", y -> y.row(0, w), -1);
            Due.due(x, "row(W less 1, 1) of W " + w, y -> y.row(w - 1, 1), w);
        }
        Due.keeps(() -> Due.town("law 4 3;law 17 0;"), "row(0, 4): there is none in 68 days", x -> x.row(0, 4), -1);
        Due.keeps(() -> Due.town("law 4 3;law 17 0;"), "row(61, 3)", x -> x.row(61, 3), 64);
        Due.keeps(() -> Due.town("law 5 2;"), "row(3, 4): over the end of a turn", x -> x.row(3, 4), 3);
        Due.keeps(() -> Due.town("law 5 2;"), "row(4, 4): the next one", x -> x.row(4, 4), 8);
        Due.keeps(() -> Due.town("other 2 0;"), "row(0, 99): the other town is none of it", x -> x.row(0, 99), 0);
    }

    // Promise 20, by Terms: "ROW of r: the first DAY from one on, with which r DAYS begin on none of which a LAW holds."
    static void rowUpToTheLastDay() {
        Due.keeps(WeekWheels::new, "row(LAST, 1)", x -> x.row(Due.LAST, 1), Due.LAST);
        Due.keeps(WeekWheels::new, "row(LAST, 2)", x -> x.row(Due.LAST, 2), -1);
        Due.keeps(WeekWheels::new, "row(LAST - 98, 99)", x -> x.row(Due.LAST - 98, 99), Due.LAST - 98);
        Due.keeps(WeekWheels::new, "row(LAST - 97, 99)", x -> x.row(Due.LAST - 97, 99), -1);
        // the last day leaves 4 by 5
        Due.keeps(() -> Due.town("law 5 4;"), "row(LAST - 4, 4)", x -> x.row(Due.LAST - 4, 4), Due.LAST - 4);
        Due.keeps(() -> Due.town("law 5 4;"), "row(LAST - 3, 4)", x -> x.row(Due.LAST - 3, 4), -1);
        Due.keeps(() -> Due.town("law 5 4;"), "row(LAST, 1)", x -> x.row(Due.LAST, 1), -1);
        Due.keeps(() -> Due.town("law 5 3;"), "row(LAST - 1, 1)", x -> x.row(Due.LAST - 1, 1), Due.LAST);
        Due.keeps(() -> Due.town("law 5 3;"), "row(LAST - 1, 2)", x -> x.row(Due.LAST - 1, 2), -1);
    }

    // Promise 20, by Terms: "ROW of r: the first DAY from one on, with which r DAYS begin on none of which a LAW holds."
    static void rowLongerByStills() {
        String stills = "law 24 0;still 1;still 5;still 9;";
        Due.keeps(() -> Due.town(stills), "row(0, 26)", x -> x.row(0, 26), 1);
        Due.keeps(() -> Due.town(stills), "row(1, 26)", x -> x.row(1, 26), 1);
        Due.keeps(() -> Due.town(stills), "row(2, 26)", x -> x.row(2, 26), -1);
        Due.keeps(() -> Due.town(stills), "row(0, 27)", x -> x.row(0, 27), -1);
        Due.keeps(() -> Due.town("law 24 0;still 99999;"), "row(0, 24): by the last still that may be", x -> x.row(0, 24), 99_985);
        Due.keeps(() -> Due.town("law 24 0;still 99999;"), "row(99986, 24)", x -> x.row(99_986, 24), -1);
        Due.keeps(() -> Due.town("law 24 0;still 24;"), "row(23, 1): it holds on a still and behind it", x -> x.row(24, 1), 26);
    }
}
