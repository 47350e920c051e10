/** The document's sentences on works, thieves, trade, images and counts that name a boundary: promises 31 to 43. */
public final class WeekWheelsWorkEdges {
    /** The greatest WHOLE TURN that a calendar can have, 99,484: on its last day all five hold. */
    static final String LONGEST = "law4 3;law7 6;law11 10;law17 16;law19 18;";
    /** Every day is barred by one of these. */
    static final String EIGHTHS = "law8 0;law8 1;law8 2;law8 3;law8 4;law8 5;law8 6;law8 7;";

    public static void main(String[] args) throws IllegalAccessException {
        Due.runAll(WeekWheelsWorkEdges.class);
    }

    static WeekWheels worker(String town, int... daysAndLaws) {
        WeekWheels x = Due.town(town);
        for (int i = 0; i + 1 < daysAndLaws.length; i += 2) {
            x.work(daysAndLaws[i], daysAndLaws[i + 1]);
        }
        return x;
    }

    static WeekWheels eightWorks() {
        WeekWheels x = Due.town(EIGHTHS);
        for (int work = 0; work < 8; work++) {
            x.work(1, 0);
        }
        return x;
    }

    // Promise 31: "A WORK: its number; -1: there are 8. IllegalArgumentException: d (1 to 60), LAWS."
    static void worksDIs1To60() {
        Due.within(Due::busy, "work's d", (x, d) -> x.work(d, 1), 1, 60, Due.ARGUMENT);
        Due.within(WeekWheels::new, "work's d without laws", (x, d) -> x.work(d, 0), 1, 60, Due.ARGUMENT);
        Due.within(Due::busy, "work's laws", (x, laws) -> x.work(60, laws), 0, 7, Due.ARGUMENT);
        Due.within(() -> Due.town("law2 0;".repeat(12)), "work's laws of twelve", (x, laws) -> x.work(1, laws), 0, 4095, Due.ARGUMENT);
        Due.within(() -> Due.town("other 5 4;"), "work's laws, others alone", (x, laws) -> x.work(1, laws), 0, 0, Due.ARGUMENT);
        Due.refuses(Due::busy, "work(0, 8): both are wrong, one is counted", x -> x.work(0, 8), Due.ARGUMENT);
    }

    // Promise 31: "A WORK: its number; -1: there are 8."
    static void worksAre8AtMost() {
        WeekWheels x = Due.town("law 5 4;");
        for (int i = 0; i < 8; i++) {
            Due.due(x, "work, the " + i + "th", y -> y.work(1, 0), i);
            Due.due(x, "sums(2)", y -> y.sums(2), i + 1);
        }
        Due.due(x, "a ninth", y -> y.work(60, 1), -1);
        Due.due(x, "sums(2)", y -> y.sums(2), 8);
        Due.due(x, "done(7, 4): the eighth as it was", y -> y.done(7, 4), 4);
        Due.due(x, "done(8, 0): no ninth", y -> y.done(8, 0), Due.ELEMENT);
        Due.keeps(WeekWheelsWorkEdges::eightWorks, "a ninth", y -> y.work(60, 1), -1);
        Due.refuses(WeekWheelsWorkEdges::eightWorks, "a ninth of 0 days", y -> y.work(0, 1), Due.ARGUMENT);
        Due.refuses(WeekWheelsWorkEdges::eightWorks, "a ninth of 61 days", y -> y.work(61, 1), Due.ARGUMENT);
        Due.refuses(WeekWheelsWorkEdges::eightWorks, "a ninth, no such laws", y -> y.work(1, 256), Due.ARGUMENT);
    }

    // Promise 32: "The DAY on which a WORK is DONE, begun on a DAY; NONE: never (to the last DAY)."
    static void doneUpToTheLastDay() {
        Due.keeps(() -> worker("", 1, 0), "done(0, 0) of 1", x -> x.done(0, 0), 0);
        Due.keeps(() -> worker("", 1, 0), "done(0, LAST) of 1", x -> x.done(0, Due.LAST), Due.LAST);
        Due.keeps(() -> worker("", 2, 0), "done(0, LAST - 1) of 2", x -> x.done(0, Due.LAST - 1), Due.LAST);
        Due.keeps(() -> worker("", 2, 0), "done(0, LAST) of 2", x -> x.done(0, Due.LAST), -1);
        Due.keeps(() -> worker("", 60, 0), "done(0, 0) of 60", x -> x.done(0, 0), 59);
        Due.keeps(() -> worker("", 60, 0), "done(0, LAST - 59) of 60", x -> x.done(0, Due.LAST - 59), Due.LAST);
        Due.keeps(() -> worker("", 60, 0), "done(0, LAST - 58) of 60", x -> x.done(0, Due.LAST - 58), -1);
        // the last day leaves 4 by 5
        Due.keeps(() -> worker("law 5 4;", 1, 1), "done(0, LAST - 1)", x -> x.done(0, Due.LAST - 1), Due.LAST - 1);
        Due.keeps(() -> worker("law 5 4;", 1, 1), "done(0, LAST), which is barred", x -> x.done(0, Due.LAST), -1);
        Due.keeps(() -> worker("law 5 3;", 1, 1), "done(0, LAST - 1), which is barred", x -> x.done(0, Due.LAST - 1), Due.LAST);
        Due.keeps(() -> worker("law 2 1;", 60, 1), "done(0, LAST - 119)", x -> x.done(0, Due.LAST - 119), Due.LAST - 1);
        Due.keeps(() -> worker("law 2 1;", 60, 1), "done(0, LAST - 117)", x -> x.done(0, Due.LAST - 117), -1);
    }

    // Promise 32, by Terms: "A WORK of d DAYS (1 to 60) barred by some LAWS: from a DAY on, each DAY on which none of these holds counts:
    // DONE is it on the d-th."
    static void doneOnTheDthDayThatIsNotBarred() {
        Due.keeps(() -> worker("law 2 0;", 60, 1), "done(0, 0): the 60th odd day", x -> x.done(0, 0), 119);
        Due.keeps(() -> worker("law 2 0;", 60, 0), "done(0, 0): barred by none", x -> x.done(0, 0), 59);
        Due.keeps(() -> worker("law 2 0;law 2 1;", 1, 3), "done(0, 0): always barred", x -> x.done(0, 0), -1);
        Due.keeps(() -> worker(EIGHTHS, 1, 255), "done(0, 0): always barred", x -> x.done(0, 0), -1);
        Due.keeps(() -> worker(EIGHTHS, 60, 127), "done(0, 0): one day of eight", x -> x.done(0, 0), 479);
        Due.keeps(() -> worker("law 5 1;still 0;", 2, 1), "done(0, 0) with a still", x -> x.done(0, 0), 1);
        Due.keeps(() -> worker("law 5 1;still 0;", 3, 1), "done(0, 0) with a still", x -> x.done(0, 0), 3);
        Due.keeps(() -> worker("law 5 1;still 1;", 2, 1), "done(0, 0): barred on a still and behind it", x -> x.done(0, 0), 3);
        Due.keeps(() -> worker("law2 0;".repeat(12), 1, 4095), "done(0, 0): barred by twelve", x -> x.done(0, 0), 1);
        String others = "law 5 4;other 5 3;other 2 0;";
        Due.keeps(() -> worker(others, 4, 1), "done(0, 0): the other town bars nothing", x -> x.done(0, 0), 3);
        Due.keeps(() -> worker(others, 4, 1), "begun(0, 1): the other town bars nothing", x -> x.begun(0, 1), 5);
        Due.keeps(() -> worker(others, 4, 1, 1, 0), "soonest(0, 1): the other town bars nothing", x -> x.soonest(0, 1), 1);
        Due.keeps(() -> worker("law 2 0;other 2 1;", 1, 1, 1, 0), "soonest(0, 1): nor in another order", x -> x.soonest(0, 1), 10);
    }

    // Promise 32: "The DAY on which a WORK is DONE, begun on a DAY; NONE: never (to the last DAY)."
    static void doneOnTheLastDayOfATurnMadeLongerByStills() {
        // of 70 days only the last is free, and three stills come ahead of it
        String town = "law2 0;law5 0;law5 1;law5 2;law5 3;law7 0;law7 1;law7 2;law7 3;law7 4;law7 5;";
        for (int last = 2; last <= 68; last++) {
            String stills = "still 0;still 1;still " + last + ";";
            Due.keeps(() -> worker(town + stills, 1, 2047), "done(0, 0), " + stills, x -> x.done(0, 0), 72);
            Due.keeps(() -> worker(town + stills, 2, 2047), "done(0, 0) of two, " + stills, x -> x.done(0, 0), 142);
            Due.keeps(() -> worker(town + stills, 1, 2047), "market, " + stills, x -> x.market(0, 2047, 0), 72);
            Due.keeps(() -> worker(town + stills, 1, 2047), "row, " + stills, x -> x.row(0, 1), 72);
        }
        Due.keeps(() -> worker(town + "law7 6;", 1, 4095), "done(0, 0): none is free", x -> x.done(0, 0), -1);
        Due.keeps(() -> worker(town + "law7 6;", 1, 2047), "done(0, 0): barred by the first eleven", x -> x.done(0, 0), 69);
        Due.keeps(() -> worker(town, 1, 2047), "begun(0, 0)", x -> x.begun(0, 0), 69);
        Due.keeps(() -> worker(town, 1, 2047), "begun(0, 70)", x -> x.begun(0, 70), 139);
        // within 70 days all are barred then, so the last of them is best
        Due.keeps(() -> worker(town + "still 0;still 1;still 7;", 1, 2047), "begun(0, 0)", x -> x.begun(0, 0), 69);
    }

    // Promise 33: "BEGUN best; NONE: it never is DONE."
    static void begunNever() {
        Due.keeps(() -> worker("law 2 0;law 2 1;", 1, 3), "begun(0, 0): always barred", x -> x.begun(0, 0), -1);
        Due.keeps(() -> worker("", 60, 0), "begun(0, LAST - 59)", x -> x.begun(0, Due.LAST - 59), Due.LAST - 59);
        Due.keeps(() -> worker("", 60, 0), "begun(0, LAST - 58)", x -> x.begun(0, Due.LAST - 58), -1);
        Due.keeps(() -> worker("", 1, 0), "begun(0, LAST)", x -> x.begun(0, Due.LAST), Due.LAST);
        // the last day leaves 15 by 24
        Due.keeps(() -> worker("law 24 15;", 3, 1), "begun(0, LAST - 3)", x -> x.begun(0, Due.LAST - 3), Due.LAST - 3);
        Due.keeps(() -> worker("law 24 15;", 3, 1), "begun(0, LAST - 2)", x -> x.begun(0, Due.LAST - 2), -1);
        Due.keeps(() -> worker("law 24 14;", 2, 1), "begun(0, LAST - 2)", x -> x.begun(0, Due.LAST - 2), Due.LAST - 2);
        Due.keeps(() -> worker("law 24 14;", 2, 1), "begun(0, LAST - 1)", x -> x.begun(0, Due.LAST - 1), -1);
        Due.keeps(() -> worker("law 24 14;", 1, 1), "begun(0, LAST - 1)", x -> x.begun(0, Due.LAST - 1), Due.LAST);
    }

    // Promise 33, by Terms: "BEGUN best: the DAY from one on, within a WHOLE TURN, by which from it to DONE are fewest DAYS, of these the first."
    static void begunUpToTheLastDayOfATurn() {
        Due.keeps(() -> worker("law 24 0;", 23, 1), "begun(0, 1): at once", x -> x.begun(0, 1), 1);
        Due.keeps(() -> worker("law 24 0;", 23, 1), "begun(0, 2): on the last day of the turn", x -> x.begun(0, 2), 25);
        Due.keeps(() -> worker("law 24 0;", 23, 1), "begun(0, 0)", x -> x.begun(0, 0), 1);
        Due.keeps(() -> worker("law 24 0;", 24, 1), "begun(0, 0): all are alike but the barred day", x -> x.begun(0, 0), 1);
        Due.keeps(() -> worker("law 24 0;", 24, 1), "begun(0, 5): the first", x -> x.begun(0, 5), 5);
        Due.keeps(() -> worker("law 24 0;", 60, 0), "begun(0, 24): barred by none", x -> x.begun(0, 24), 24);
        Due.keeps(() -> worker("law 2 0;", 1, 1), "begun(0, 2)", x -> x.begun(0, 2), 3);
        WeekWheels both = worker("law 24 0;law 5 0;", 23, 1, 4, 2);
        Due.due(both, "begun(0, 2)", x -> x.begun(0, 2), 25);
        Due.due(both, "begun(1, 9) behind another", x -> x.begun(1, 9), 11);
        Due.due(both, "begun(1, 100) behind another", x -> x.begun(1, 100), 101);
        Due.due(both, "begun(0, 0) behind another", x -> x.begun(0, 0), 1);
        // three stills make a longer row, which only a turn that reaches it finds
        Due.keeps(() -> worker("law 5 0;still 21;still 22;still 23;", 7, 1), "begun(0, 17)", x -> x.begun(0, 17), 21);
        Due.keeps(() -> worker("law 5 0;still 21;still 22;still 23;", 7, 1), "begun(0, 16): none is better than the first", x -> x.begun(0, 16), 16);
    }

    // Promise 34: "SOONEST from a DAY on: 0 the DAY on which the last is DONE (the DAY ahead without WORKS; NONE: never), 1 the order as
    // digits to the base 10 (0: none; NONE)."
    static void soonestWithoutWorks() {
        Due.keeps(WeekWheels::new, "soonest(0, 0): the day ahead", x -> x.soonest(0, 0), -1);
        Due.keeps(WeekWheels::new, "soonest(0, 1): none", x -> x.soonest(0, 1), 0);
        Due.keeps(WeekWheels::new, "soonest(1, 0): the day ahead", x -> x.soonest(1, 0), 0);
        Due.keeps(WeekWheels::new, "soonest(LAST, 0): the day ahead", x -> x.soonest(Due.LAST, 0), Due.LAST - 1);
        Due.keeps(WeekWheels::new, "soonest(LAST, 1): none", x -> x.soonest(Due.LAST, 1), 0);
        Due.keeps(() -> Due.town("law 2 0;law 2 1;"), "soonest(7, 0): no day need be free", x -> x.soonest(7, 0), 6);
    }

    // Promise 34: "the DAY on which the last is DONE (the DAY ahead without WORKS; NONE: never)"
    static void soonestUpToTheLastDay() {
        Due.keeps(() -> worker("", 1, 0), "soonest(LAST, 0) of one", x -> x.soonest(Due.LAST, 0), Due.LAST);
        Due.keeps(() -> worker("", 1, 0), "soonest(LAST, 1) of one", x -> x.soonest(Due.LAST, 1), 0);
        Due.keeps(() -> worker("", 2, 0), "soonest(LAST, 0) of one, never", x -> x.soonest(Due.LAST, 0), -1);
        Due.keeps(() -> worker("", 2, 0), "soonest(LAST, 1) of one, never", x -> x.soonest(Due.LAST, 1), -1);
        Due.keeps(() -> worker("", 1, 0, 1, 0), "soonest(LAST, 0): no day behind the last", x -> x.soonest(Due.LAST, 0), -1);
        Due.keeps(() -> worker("", 1, 0, 1, 0), "soonest(LAST, 1): no day behind the last", x -> x.soonest(Due.LAST, 1), -1);
        Due.keeps(() -> worker("", 1, 0, 1, 0), "soonest(LAST - 1, 0)", x -> x.soonest(Due.LAST - 1, 0), Due.LAST);
        Due.keeps(() -> worker("", 1, 0, 1, 0), "soonest(LAST - 1, 1)", x -> x.soonest(Due.LAST - 1, 1), 1);
        Due.keeps(WeekWheelsWorkEdges::eightWorks, "soonest(LAST - 7, 0)", x -> x.soonest(Due.LAST - 7, 0), Due.LAST);
        Due.keeps(WeekWheelsWorkEdges::eightWorks, "soonest(LAST - 7, 1)", x -> x.soonest(Due.LAST - 7, 1), 1_234_567);
        Due.keeps(WeekWheelsWorkEdges::eightWorks, "soonest(LAST - 6, 0)", x -> x.soonest(Due.LAST - 6, 0), -1);
        Due.keeps(WeekWheelsWorkEdges::eightWorks, "soonest(LAST - 6, 1)", x -> x.soonest(Due.LAST - 6, 1), -1);
        // the last day leaves 1 by 2: only the other order is done by then
        Due.keeps(() -> worker("law 2 0;law 2 1;", 1, 1, 1, 2), "soonest(LAST - 1, 0)", x -> x.soonest(Due.LAST - 1, 0), Due.LAST);
        Due.keeps(() -> worker("law 2 0;law 2 1;", 1, 1, 1, 2), "soonest(LAST - 1, 1)", x -> x.soonest(Due.LAST - 1, 1), 10);
        Due.keeps(() -> worker("law 2 0;law 2 1;", 1, 0, 1, 3), "soonest(0, 0): one is never done", x -> x.soonest(0, 0), -1);
        Due.keeps(() -> worker("law 2 0;law 2 1;", 1, 0, 1, 3), "soonest(0, 1): one is never done", x -> x.soonest(0, 1), -1);
    }

    // Promise 34, by Terms: "WORKS, 8 at most, one behind the other, each from the DAY behind the one DONE: SOONEST: the order by which the
    // last is DONE soonest, of these the first (WORK by WORK by number)."
    static void soonestOfEightInTheLastAndTheFirstOrder() {
        int[] backward = new int[16];
        int[] forward = new int[16];
        for (int work = 0; work < 8; work++) {
            backward[2 * work] = 1;
            backward[2 * work + 1] = 255 & ~(1 << 7 - work);
            forward[2 * work] = 1;
            forward[2 * work + 1] = 255 & ~(1 << work);
        }
        Due.keeps(() -> worker(EIGHTHS, backward), "soonest(0, 0), each on one day of eight", x -> x.soonest(0, 0), 7);
        Due.keeps(() -> worker(EIGHTHS, backward), "soonest(0, 1)", x -> x.soonest(0, 1), 76_543_210);
        Due.keeps(() -> worker(EIGHTHS, forward), "soonest(0, 0), each on one day of eight", x -> x.soonest(0, 0), 7);
        Due.keeps(() -> worker(EIGHTHS, forward), "soonest(0, 1)", x -> x.soonest(0, 1), 1_234_567);
        Due.keeps(() -> worker(EIGHTHS, forward), "soonest(1, 1)", x -> x.soonest(1, 1), 12_345_670);
        Due.keeps(WeekWheelsWorkEdges::eightWorks, "soonest(0, 1), all alike", x -> x.soonest(0, 1), 1_234_567);
        Due.keeps(() -> worker("", 60, 0, 60, 0, 60, 0, 60, 0, 60, 0, 60, 0, 60, 0, 60, 0), "soonest(0, 0)", x -> x.soonest(0, 0), 479);
        Due.keeps(() -> worker("law 5 4;", 1, 0), "soonest(4, 1) of one: its number is 0", x -> x.soonest(4, 1), 0);
    }

    // Promise 34, by Terms: "each from the DAY behind the one DONE"
    static void soonestFromTheDayBehindTheOneDone() {
        Due.keeps(() -> worker("law 2 0;", 1, 1, 1, 0), "soonest(0, 0)", x -> x.soonest(0, 0), 1);
        Due.keeps(() -> worker("law 2 0;", 1, 1, 1, 0), "soonest(0, 1): the first waits for a day", x -> x.soonest(0, 1), 10);
        Due.keeps(() -> worker("law 2 0;", 1, 1, 1, 0), "soonest(1, 0)", x -> x.soonest(1, 0), 2);
        Due.keeps(() -> worker("law 2 0;", 1, 1, 1, 0), "soonest(1, 1)", x -> x.soonest(1, 1), 1);
        // two that can be done on one day of eight alone: not both on the same
        Due.keeps(() -> worker(EIGHTHS, 1, 254, 1, 254, 1, 0), "soonest(0, 0)", x -> x.soonest(0, 0), 8);
        Due.keeps(() -> worker(EIGHTHS, 1, 254, 1, 254, 1, 0), "soonest(0, 1): 021", x -> x.soonest(0, 1), 21);
        Due.keeps(() -> worker(EIGHTHS, 1, 254, 1, 254, 1, 0), "soonest(1, 1): 201 is as soon, but later by number", x -> x.soonest(1, 1), 21);
        Due.keeps(() -> worker(EIGHTHS, 1, 254, 1, 254, 1, 0), "soonest(1, 0)", x -> x.soonest(1, 0), 16);
    }

    /** The day on which works, done in this order, are all done; NONE if they never are. */
    static int endOf(WeekWheels x, int day, int[] order) {
        int next = day;
        for (int work : order) {
            int end = next > Due.LAST ? WeekWheels.NONE : x.done(work, next);
            if (end == WeekWheels.NONE) {
                return WeekWheels.NONE;
            }
            next = end + 1;
        }
        return next - 1;
    }

    /** Tries all orders from the first to the last; keeps in best the soonest end and the first such order. */
    static void tryOrders(Due.Maker maker, int day, int[] order, int place, int[] best) {
        if (place == order.length) {
            int end = endOf(maker.make(), day, order);
            if (end != WeekWheels.NONE && (best[0] == WeekWheels.NONE || end < best[0])) {
                best[0] = end;
                best[1] = 0;
                for (int work : order) {
                    best[1] = 10 * best[1] + work;
                }
            }
            return;
        }
        for (int work = 0; work < order.length; work++) {
            boolean isNew = true;
            for (int i = 0; i < place; i++) {
                isNew &= order[i] != work;
            }
            if (isNew) {
                order[place] = work;
                tryOrders(maker, day, order, place + 1, best);
            }
        }
    }

    static void soonestOfAllOrders(int works, int day, Due.Maker maker) {
        int[] best = {WeekWheels.NONE, WeekWheels.NONE};
        tryOrders(maker, day, new int[works], 0, best);
        Due.keeps(maker, "soonest(" + day + ", 0)", x -> x.soonest(day, 0), best[0]);
        Due.keeps(maker, "soonest(" + day + ", 1)", x -> x.soonest(day, 1), best[1]);
    }

    // Promise 34, by Terms: "SOONEST: the order by which the last is DONE soonest, of these the first (WORK by WORK by number)."
    static void soonestOfAllOrdersTheFirst() {
        String town = "law 5 4;law 7 3;law 4 1;law 6 0;other 2 0;still 9;still 20;still 21;";
        for (int day : new int[] {0, 1, 2, 3, 8, 9, 19, 20, 22, Due.LAST - 40, Due.LAST - 12, Due.LAST - 11, Due.LAST - 10}) {
            soonestOfAllOrders(3, day, () -> worker(town, 3, 1, 2, 6, 4, 12));
            soonestOfAllOrders(4, day, () -> worker(town, 2, 15, 1, 1, 3, 10, 1, 4));
        }
        for (int day : new int[] {0, 7, 16, 21, Due.LAST - 17}) {
            soonestOfAllOrders(5, day, () -> worker(town, 1, 15, 3, 9, 2, 6, 1, 3, 2, 8));
        }
        for (int day : new int[] {0, 5, 10, Due.LAST - 600}) {
            soonestOfAllOrders(4, day, () -> worker("law 2 0;law 3 1;law 24 7;still 70;", 60, 1, 60, 3, 59, 6, 30, 5));
            soonestOfAllOrders(3, day, () -> worker("law 2 0;law 3 1;law 24 7;law 24 8;still 70;", 33, 13, 40, 7, 1, 9));
        }
    }

    // Promise 34, by Terms: "each from the DAY behind the one DONE"
    static void soonestOverAStill() {
        Due.keeps(() -> worker("law 7 0;still 6;", 1, 0, 1, 1), "soonest(6, 0)", x -> x.soonest(6, 0), 7);
        Due.keeps(() -> worker("law 7 0;still 6;", 1, 0, 1, 1), "soonest(6, 1)", x -> x.soonest(6, 1), 1);
        Due.keeps(() -> worker("law 7 0;still 6;", 1, 0, 1, 1), "soonest(7, 0): the barred day is 8", x -> x.soonest(7, 0), 8);
        Due.keeps(() -> worker("law 7 0;still 6;", 1, 0, 1, 1), "soonest(7, 1)", x -> x.soonest(7, 1), 10);
        Due.keeps(() -> worker("law 7 0;still 6;", 1, 1, 1, 0), "soonest(8, 1): the barred day is 8, not 7", x -> x.soonest(8, 1), 10);
        Due.keeps(() -> worker("law 7 0;still 7;", 1, 1, 1, 0), "soonest(7, 0): barred on 7 and on 8", x -> x.soonest(7, 0), 9);
        Due.keeps(() -> worker("law 7 0;still 7;", 1, 1, 1, 0), "soonest(7, 1)", x -> x.soonest(7, 1), 10);
        Due.keeps(() -> worker("law 7 0;still 7;", 1, 1, 2, 0), "soonest(7, 1)", x -> x.soonest(7, 1), 10);
        Due.keeps(() -> worker("law 7 0;still 7;", 1, 1, 3, 0), "soonest(7, 1): 789 and 10, or 9 and 10 to 12", x -> x.soonest(7, 1), 10);
        Due.keeps(() -> worker("law 7 0;still 7;", 1, 1, 3, 0), "soonest(9, 1)", x -> x.soonest(9, 1), 1);
    }

    // Promise 35: "All WORKS go: how many."
    static void restOfNoneAndOfEight() {
        Due.keeps(WeekWheels::new, "rest() of none", WeekWheels::rest, 0);
        WeekWheels x = eightWorks();
        x.seen(0, 0, true);
        Due.due(x, "rest() of eight", WeekWheels::rest, 8);
        Due.due(x, "sums(2)", y -> y.sums(2), 0);
        Due.due(x, "sums(0): what was seen stays", y -> y.sums(0), 1);
        Due.due(x, "done(0, 0)", y -> y.done(0, 0), Due.ELEMENT);
        Due.due(x, "soonest(5, 0)", y -> y.soonest(5, 0), 4);
        Due.due(x, "rest() again", WeekWheels::rest, 0);
        Due.due(x, "work: numbers begin anew", y -> y.work(1, 0), 0);
        Due.due(x, "rest() of one", WeekWheels::rest, 1);
    }

    // Promise 36: "THIEF: of a WHOLE TURN how many DAYS (as if none was still). IllegalArgumentException: a and b are one."
    static void thiefsLawsAreTwo() {
        Due.refuses(Due::busy, "thief(0, 0)", x -> x.thief(0, 0), Due.ARGUMENT);
        Due.refuses(Due::busy, "thief(2, 2)", x -> x.thief(2, 2), Due.ARGUMENT);
        Due.refuses(Due::busy, "thief(3, 3): no such law is told first", x -> x.thief(3, 3), Due.ELEMENT);
        Due.refuses(Due::busy, "thief(-1, -1): no such law is told first", x -> x.thief(-1, -1), Due.ELEMENT);
        Due.refuses(Due::busy, "thief(0, 3)", x -> x.thief(0, 3), Due.ELEMENT);
        Due.refuses(Due::busy, "thief(3, 0)", x -> x.thief(3, 0), Due.ELEMENT);
        Due.keeps(() -> Due.town("law2 0;".repeat(11) + "law3 1;"), "thief(0, 11)", x -> x.thief(0, 11), 2);
        Due.keeps(() -> Due.town("law2 0;".repeat(11) + "law3 1;"), "thief(11, 0)", x -> x.thief(11, 0), 1);
        Due.refuses(() -> Due.town("law2 0;".repeat(12)), "thief(0, 12)", x -> x.thief(0, 12), Due.ELEMENT);
    }

    // Promise 36: "THIEF: of a WHOLE TURN how many DAYS (as if none was still)."
    static void thiefOnNoDayAndOnAllOfALaw() {
        Due.keeps(() -> Due.town("law 5 4;law 5 4;"), "thief(0, 1): two laws that are alike", x -> x.thief(0, 1), 0);
        Due.keeps(() -> Due.town("law 24 23;law 2 1;"), "thief(0, 1): b holds whenever a does", x -> x.thief(0, 1), 0);
        Due.keeps(() -> Due.town("law 24 23;law 2 1;"), "thief(1, 0): all but one", x -> x.thief(1, 0), 11);
        Due.keeps(() -> Due.town("law 24 23;law 2 0;"), "thief(0, 1): they never meet", x -> x.thief(0, 1), 1);
        Due.keeps(() -> Due.town("law 24 23;law 2 0;"), "thief(1, 0): they never meet", x -> x.thief(1, 0), 12);
        Due.keeps(() -> Due.town(LONGEST), "thief(0, 4)", x -> x.thief(0, 4), 24_871 - 1_309);
        Due.keeps(() -> Due.town(LONGEST + "still 2;still 3;still 99482;"), "thief(0, 4), none was still", x -> x.thief(0, 4), 23_562);
        Due.keeps(() -> Due.town("law 2 0;law 2 1;other 7 0;"), "thief(0, 1): the other town is none of it", x -> x.thief(0, 1), 1);
    }

    // Promise 37: "GUARD: 100 W and D; NONE: there is none, or no such DAY."
    static void guardOfNoSuchDay() {
        Due.keeps(() -> Due.town("law 5 4;law 5 4;"), "guard(0, 1): no such day", x -> x.guard(0, 1), -1);
        Due.keeps(() -> Due.town("law 24 23;law 2 1;"), "guard(0, 1): no such day", x -> x.guard(0, 1), -1);
        Due.keeps(() -> Due.town("law 24 23;law 2 0;"), "guard(0, 1): the last law there is", x -> x.guard(0, 1), 2423);
        Due.keeps(() -> Due.town("law 2 0;law 2 1;"), "guard(0, 1): the first law there is", x -> x.guard(0, 1), 200);
        Due.refuses(Due::busy, "guard(1, 1)", x -> x.guard(1, 1), Due.ARGUMENT);
        Due.refuses(Due::busy, "guard(3, 3): no such law is told first", x -> x.guard(3, 3), Due.ELEMENT);
        Due.refuses(Due::busy, "guard(-1, -1): no such law is told first", x -> x.guard(-1, -1), Due.ELEMENT);
        Due.refuses(Due::busy, "guard(0, 3)", x -> x.guard(0, 3), Due.ELEMENT);
        Due.refuses(Due::busy, "guard(3, 0)", x -> x.guard(3, 0), Due.ELEMENT);
    }

    // Promise 37, by Terms: "GUARD: a new LAW that holds on all of these: that of the greatest W, of these the least D."
    static void guardOfTheGreatestWeek() {
        Due.keeps(() -> Due.town("law 12 0;law 24 0;"), "guard(0, 1): up to 24", x -> x.guard(0, 1), 2412);
        Due.keeps(() -> Due.town("law 12 0;law 24 12;"), "guard(0, 1): up to 24", x -> x.guard(0, 1), 2400);
        Due.keeps(() -> Due.town("law 16 0;law 24 0;"), "guard(0, 1): not 48", x -> x.guard(0, 1), 1600);
        Due.keeps(() -> Due.town("law 8 0;law 16 0;"), "guard(0, 1)", x -> x.guard(0, 1), 1608);
        Due.keeps(() -> Due.town("law 8 0;law 12 0;"), "guard(0, 1): two days of 24, so no greater week", x -> x.guard(0, 1), 800);
        Due.keeps(() -> Due.town("law 6 1;law 4 1;"), "guard(0, 1): a week that is neither's", x -> x.guard(0, 1), 1207);
        Due.keeps(() -> Due.town("law 23 22;law 24 0;"), "guard(0, 1)", x -> x.guard(0, 1), 2322);
    }

    static WeekWheels sixOthers() {
        return Due.town("law 2 0;" + "other2 1;".repeat(6));
    }

    // Promise 38: "TRADE: of the WHOLE TURN of both (as if none was still) how many DAYS. IllegalArgumentException: bits of no LAWS of
    // either town."
    static void tradesBitsAreOfLawsOfEitherTown() {
        Due.within(Due::busy, "trade's laws", (x, laws) -> x.trade(laws, 1), 0, 7, Due.ARGUMENT);
        Due.within(Due::busy, "trade's others", (x, others) -> x.trade(7, others), 0, 1, Due.ARGUMENT);
        Due.within(WeekWheelsWorkEdges::sixOthers, "trade's six others", (x, others) -> x.trade(0, others), 0, 63, Due.ARGUMENT);
        Due.within(WeekWheels::new, "trade's laws without any", (x, laws) -> x.trade(laws, 0), 0, 0, Due.ARGUMENT);
        Due.within(WeekWheels::new, "trade's others without any", (x, others) -> x.trade(0, others), 0, 0, Due.ARGUMENT);
        Due.refuses(Due::busy, "trade(8, 2): both are wrong, one is counted", x -> x.trade(8, 2), Due.ARGUMENT);
    }

    // Promise 38: "TRADE: of the WHOLE TURN of both (as if none was still) how many DAYS."
    static void tradeOnNoDayAndOnAll() {
        Due.keeps(WeekWheels::new, "trade(0, 0) without laws", x -> x.trade(0, 0), 1);
        Due.keeps(WeekWheelsWorkEdges::sixOthers, "trade(0, 0): all days", x -> x.trade(0, 0), 2);
        Due.keeps(WeekWheelsWorkEdges::sixOthers, "trade(1, 0)", x -> x.trade(1, 0), 1);
        Due.keeps(WeekWheelsWorkEdges::sixOthers, "trade(0, 63)", x -> x.trade(0, 63), 1);
        Due.keeps(WeekWheelsWorkEdges::sixOthers, "trade(1, 32): no day", x -> x.trade(1, 32), 0);
        String both = "law4 3;law7 6;law11 10;other17 16;other19 18;";
        Due.keeps(() -> Due.town(both), "trade(0, 0)", x -> x.trade(0, 0), 99_484);
        Due.keeps(() -> Due.town(both), "trade(7, 3)", x -> x.trade(7, 3), 3 * 6 * 10 * 16 * 18);
        Due.keeps(() -> Due.town(both + "still 2;still 3;"), "trade(7, 3), none was still", x -> x.trade(7, 3), 51_840);
        Due.keeps(() -> Due.town("other 5 4;"), "trade(0, 1): a turn of the other town alone", x -> x.trade(0, 1), 4);
    }

    // Promise 39: "The next such DAY from one on; NONE."
    static void marketUpToTheLastDay() {
        Due.keeps(WeekWheels::new, "market(0, 0, 0)", x -> x.market(0, 0, 0), 0);
        Due.keeps(WeekWheels::new, "market(LAST, 0, 0)", x -> x.market(Due.LAST, 0, 0), Due.LAST);
        Due.keeps(WeekWheelsWorkEdges::sixOthers, "market(0, 1, 0)", x -> x.market(0, 1, 0), 1);
        Due.keeps(WeekWheelsWorkEdges::sixOthers, "market(1, 1, 0): the day itself", x -> x.market(1, 1, 0), 1);
        Due.keeps(WeekWheelsWorkEdges::sixOthers, "market(LAST, 1, 0): it leaves 1", x -> x.market(Due.LAST, 1, 0), Due.LAST);
        Due.keeps(WeekWheelsWorkEdges::sixOthers, "market(LAST - 1, 1, 0)", x -> x.market(Due.LAST - 1, 1, 0), Due.LAST);
        Due.keeps(WeekWheelsWorkEdges::sixOthers, "market(LAST, 0, 63): none", x -> x.market(Due.LAST, 0, 63), -1);
        Due.keeps(WeekWheelsWorkEdges::sixOthers, "market(LAST - 1, 0, 63)", x -> x.market(Due.LAST - 1, 0, 63), Due.LAST - 1);
        Due.keeps(WeekWheelsWorkEdges::sixOthers, "market(0, 1, 1): never", x -> x.market(0, 1, 1), -1);
        Due.keeps(() -> Due.town("law 2 0;other 2 1;still 4;still 5;"), "market(0, 1, 1): no still helps", x -> x.market(0, 1, 1), -1);
        Due.keeps(() -> Due.town("law 3 0;other 3 1;still 3;"), "market(3, 1, 1) behind a still", x -> x.market(3, 1, 1), 6);
        Due.within(Due::busy, "market's laws", (x, laws) -> x.market(0, laws, 1), 0, 7, Due.ARGUMENT);
        Due.within(Due::busy, "market's others", (x, others) -> x.market(0, 0, others), 0, 1, Due.ARGUMENT);
        Due.within(WeekWheelsWorkEdges::sixOthers, "market's six others", (x, others) -> x.market(0, 0, others), 0, 63, Due.ARGUMENT);
    }

    static WeekWheels imaged(int times) {
        WeekWheels x = Due.town("law 5 4;law 7 6;house;house;");
        for (int i = 0; i < times; i++) {
            x.turn(0, 0, 1);
            x.seen(0, i, false);
            x.did(1, 1, i, false);
            x.work(i + 1, 1);
            x.image();
        }
        return x;
    }

    // Promise 40: "An IMAGE of WHEELS, what was SEEN and done, WORKS: how many there are; -1: there are 3."
    static void imagesAre3AtMost() {
        WeekWheels x = new WeekWheels();
        for (int i = 1; i <= 3; i++) {
            Due.due(x, "image, the " + i + "th", WeekWheels::image, i);
            Due.due(x, "sums(3)", y -> y.sums(3), i);
        }
        Due.due(x, "a fourth", WeekWheels::image, -1);
        Due.due(x, "sums(3)", y -> y.sums(3), 3);
        Due.due(x, "restore()", WeekWheels::restore, 2);
        Due.due(x, "a third again", WeekWheels::image, 3);
        Due.due(x, "a fourth", WeekWheels::image, -1);
        Due.keeps(() -> imaged(3), "a fourth", WeekWheels::image, -1);
        WeekWheels z = imaged(3);
        z.turn(0, 0, 1);
        Due.due(z, "a fourth", WeekWheels::image, -1);
        Due.due(z, "restore()", WeekWheels::restore, 2);
        Due.due(z, "slip(0, 0): as in the third", y -> y.slip(0, 0), 3);
    }

    // Promise 40: "An IMAGE of WHEELS, what was SEEN and done, WORKS"
    static void imageOfAllThatMayBe() {
        WeekWheels x = Due.town("law2 0;".repeat(11) + "law24 0;" + "house;".repeat(10));
        for (int i = 0; i < 20; i++) {
            x.seen(i < 10 ? 11 : 0, i % 10, i >= 10 && i % 2 == 0);
            x.did(9, 11, i, false);
        }
        for (int work = 0; work < 8; work++) {
            x.work(60 - work, 1 << work);
        }
        x.turn(9, 11, 23);
        x.turn(0, 0, 1);
        Due.due(x, "image()", WeekWheels::image, 1);
        int slipped = x.slipped(9, 0);
        int soonest = x.soonest(0, 0);
        x.turn(9, 11, 5);
        x.turn(0, 0, 1);
        x.forget();
        x.rest();
        x.seen(0, 3, true);
        x.did(0, 0, 4, true);
        x.work(1, 0);
        Due.due(x, "restore()", WeekWheels::restore, 0);
        Due.due(x, "sums(0)", y -> y.sums(0), 20);
        Due.due(x, "sums(1)", y -> y.sums(1), 20);
        Due.due(x, "sums(2)", y -> y.sums(2), 8);
        Due.due(x, "slip(9, 11)", y -> y.slip(9, 11), 23);
        Due.due(x, "slip(0, 0)", y -> y.slip(0, 0), 1);
        Due.due(x, "fits(0): even days from 10 to 22", y -> y.fits(0), 7);
        Due.due(x, "slipped(9, 0)", y -> y.slipped(9, 0), slipped);
        Due.due(x, "soonest(0, 0)", y -> y.soonest(0, 0), soonest);
        Due.due(x, "done(7, 0): 53 days barred by every other", y -> y.done(7, 0), 105);
        Due.due(x, "a 21st seen", y -> y.seen(0, 0, true), -1);
        Due.due(x, "a 21st done", y -> y.did(0, 0, 0, true), -1);
        Due.due(x, "a ninth work", y -> y.work(1, 0), -1);
    }

    // Promise 41: "All is as in the latest IMAGE, which is gone: how many are left; -1: there is none."
    static void restoreOfNoneAndOfThree() {
        Due.keeps(WeekWheels::new, "restore() of a new object", WeekWheels::restore, -1);
        Due.keeps(() -> imaged(0), "restore() without an image", WeekWheels::restore, -1);
        WeekWheels x = imaged(3);
        x.forget();
        x.rest();
        for (int left = 2; left >= 0; left--) {
            int l = left;
            Due.due(x, "restore()", WeekWheels::restore, l);
            Due.due(x, "sums(3)", y -> y.sums(3), l);
            Due.due(x, "slip(0, 0)", y -> y.slip(0, 0), l + 1);
            Due.due(x, "sums(0)", y -> y.sums(0), l + 1);
            Due.due(x, "sums(1)", y -> y.sums(1), l + 1);
            Due.due(x, "sums(2)", y -> y.sums(2), l + 1);
        }
        x.turn(0, 0, 3);
        Due.due(x, "restore(): there is none", WeekWheels::restore, -1);
        Due.due(x, "slip(0, 0): all stays then", y -> y.slip(0, 0), 4);
        Due.due(x, "sums(2): all stays then", y -> y.sums(2), 1);
        Due.same("-1 is no refusal", x.status(0) + x.status(1) + x.status(2), 0);
    }

    // Promise 41: "All is as in the latest IMAGE, which is gone: how many are left"
    static void restoreLeavesWhatNoImageKeeps() {
        WeekWheels x = imaged(1);
        Due.ask(x, "house 0 0");
        Due.ask(x, "law 9");
        Due.feed(x, "law 1");
        x.turn(0, 0, 2);
        Due.due(x, "restore()", WeekWheels::restore, 0);
        Due.due(x, "sums(4): the tape", y -> y.sums(4), 20);
        Due.due(x, "fault()", WeekWheels::fault, 4);
        Due.due(x, "such(3): the wish, by the wheels of the image", y -> y.such(3), true);
        Due.due(x, "such(1)", y -> y.such(1), false);
        Due.due(x, "wish(5): the tape's bytes", y -> y.wish(5), 1);
        Due.due(x, "such(6)", y -> y.such(6), true);
    }

    // Promise 42: "How many calls were refused: 0 IndexOutOfBoundsException, 1 NoSuchElementException, 2 IllegalArgumentException; NONE for
    // others. (No IMAGE keeps it.)"
    static void statusOf0To2() {
        for (int what : new int[] {-1, 3, Integer.MIN_VALUE, Integer.MAX_VALUE}) {
            Due.keeps(Due::busy, "status(" + what + ")", x -> x.status(what), -1);
        }
        WeekWheels x = imaged(1);
        int[] refused = new int[3];
        for (int i = 0; i < 12; i++) {
            int which = i % 3;
            String due = which == 0 ? Due.DAY : which == 1 ? Due.ELEMENT : Due.ARGUMENT;
            Due.due(x, "a refused call", y -> which == 0 ? y.holds(-1) : which == 1 ? y.law(2, 0) : y.count(13), due);
            refused[which]++;
            for (int what = 0; what < 3; what++) {
                int w = what;
                Due.due(x, "status(" + w + ")", y -> y.status(w), refused[w]);
            }
        }
        x.restore();
        Due.due(x, "status(0): no image keeps it", y -> y.status(0), 4);
        Due.tell(x, "law 2 0;");
        Due.due(x, "status(1): a calendar leaves it", y -> y.status(1), 4);
    }

    // Promise 42: "How many calls were refused"
    static void statusCountsNoAnswerOfNone() {
        WeekWheels x = eightWorks();
        for (int i = 0; i < 21; i++) {
            x.seen(0, 0, true);
        }
        for (int i = 0; i < 26; i++) {
            x.feed(0, 0, 0, 0, 0);
        }
        x.work(1, 0);
        x.restore();
        x.calendar(1);
        Due.ask(x, "law 9");
        x.never(0);
        x.row(0, 1);
        x.weeks(203, 1);
        x.sums(5);
        x.status(3);
        for (int i = 0; i < 4; i++) {
            x.image();
        }
        Due.same("status", x.status(0) + " " + x.status(1) + " " + x.status(2), "0 0 0");
    }

    // Promise 43: "0 SEEN, 1 done by HOUSES, 2 WORKS, 3 IMAGES, 4 bytes of the TAPE; NONE for others."
    static void sumsOf0To4() {
        for (int what : new int[] {-1, 5, Integer.MIN_VALUE, Integer.MAX_VALUE}) {
            Due.keeps(Due::busy, "sums(" + what + ")", x -> x.sums(what), -1);
        }
        int[] busy = {2, 2, 2, 1, 0};
        for (int i = 0; i < 5; i++) {
            int what = i;
            Due.keeps(WeekWheels::new, "sums(" + what + ") of a new object", x -> x.sums(what), 0);
            Due.keeps(Due::busy, "sums(" + what + ")", x -> x.sums(what), busy[what]);
        }
        WeekWheels x = Due.town("law 5 4;house;");
        for (int i = 0; i < 26; i++) {
            x.seen(0, 0, true);
            x.did(0, 0, 0, true);
            x.work(1, 0);
            x.image();
            x.feed(0, 0, 0, 0, 0);
        }
        int[] greatest = {20, 20, 8, 3, 500};
        for (int i = 0; i < 5; i++) {
            int what = i;
            Due.due(x, "sums(" + what + "), the greatest", y -> y.sums(what), greatest[what]);
        }
    }
}
