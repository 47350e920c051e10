import java.util.ArrayList;
import java.util.List;

/**
 * Whole turns of up to 99,484 days, the longest that weeks can have: each answer is worked out by looking at one day
 * after the other. (The runs by a seed leave out the dear calls where a turn is long.)
 */
public final class WeekWheelsLongTurns {
    static final int LAST = Due.LAST;

    public static void main(String[] args) throws IllegalAccessException {
        Due.runAll(WeekWheelsLongTurns.class);
    }

    static void primes() {
        new Town("23 5 19 3 17 11 13 2", "", 3, 50_000, 99_999).all(0b1111, 0b0110, 0b1000);
    }

    static void longestTurn() {
        new Town("4 1 7 3 11 10 17 0 19 18 14 3 22 21", "", 99_998, 99_999).all(0b1111111, 0b0100011, 0b0011000);
    }

    static void manyDivisors() {
        new Town("24 7 20 3 18 1 21 20 22 9 16 5", "", 0).all(0b111111, 0b010101, 0b000011);
    }

    static void hardlyAnyFree() {
        // 2, 4, 8 and 16 leave one day of sixteen, and the others bar most of these
        new Town("2 0 4 1 8 3 16 7 24 15 24 7 20 3 20 7 20 11 20 15 11 6 19 0", "", 15, 31, 47).all(0b111111111111, 0b1111, 0b111111);
    }

    static void bothTowns() {
        new Town("4 3 11 2 17 16 22 13", "7 6 19 1 14 13", 12_345).all(0b1111, 0b1001, 0);
    }

    /** A town with its plain telling: which laws hold after so many turns, within a whole turn of both towns. */
    static final class Town {
        final WeekWheels x;
        final List<int[]> laws;
        final List<int[]> others;
        final int[] stills;
        final int turn;
        final int bothTurn;
        final int[] held;
        final int[] heldOfOthers;

        Town(String laws, String others, int... stills) {
            this.laws = pairs(laws);
            this.others = pairs(others);
            this.stills = stills;
            turn = wholeTurn(this.laws, 1);
            bothTurn = wholeTurn(this.others, turn);
            held = holding(this.laws);
            heldOfOthers = holding(this.others);
            x = Due.town(text());
        }

        static List<int[]> pairs(String numbers) {
            List<int[]> all = new ArrayList<>();
            String[] parts = numbers.isEmpty() ? new String[0] : numbers.split(" ");
            for (int i = 0; i + 1 < parts.length; i += 2) {
                all.add(new int[] {Integer.parseInt(parts[i]), Integer.parseInt(parts[i + 1])});
            }
            return all;
        }

        static int wholeTurn(List<int[]> laws, int from) {
            int whole = from;
            for (int[] law : laws) {
                int least = whole;
                while (least % law[0] != 0) {
                    least += whole;
                }
                whole = least;
            }
            return whole;
        }

        int[] holding(List<int[]> some) {
            int[] bits = new int[bothTurn];
            for (int t = 0; t < bothTurn; t++) {
                for (int i = 0; i < some.size(); i++) {
                    bits[t] |= t % some.get(i)[0] == some.get(i)[1] ? 1 << i : 0;
                }
            }
            return bits;
        }

        String text() {
            StringBuilder out = new StringBuilder();
            for (int[] law : laws) {
                out.append("law ").append(law[0]).append(' ').append(law[1]).append(';');
            }
            for (int[] law : others) {
                out.append("other ").append(law[0]).append(' ').append(law[1]).append(';');
            }
            for (int still : stills) {
                out.append("still ").append(still).append(';');
            }
            return out.toString();
        }

        void all(int... sets) {
            Due.same("told(4)", x.told(4), turn);
            Due.same("told(5)", x.told(5), bothTurn);
            counts();
            today();
            rows();
            for (int set : sets) {
                Due.same("together(" + set + ")", x.together(set), firstOfAll(set));
                Due.same("meeting(" + set + ")", x.meeting(set), mostMeeting(set));
                markets(set, (1 << others.size()) - 1);
                works(set);
            }
        }

        void counts() {
            int[] days = new int[13];
            int most = 0;
            for (int t = 0; t < turn; t++) {
                int many = Integer.bitCount(held[t]);
                days[many]++;
                boolean better = many > Integer.bitCount(most) || many == Integer.bitCount(most) && held[t] < most;
                most = better ? held[t] : most;
            }
            for (int k = 0; k <= 12; k++) {
                Due.same("count(" + k + ")", x.count(k), days[k]);
            }
            Due.same("most(0)", x.most(0), Integer.bitCount(most));
            Due.same("most(1)", x.most(1), most);
            for (int b = 1; b < laws.size(); b++) {
                int thieves = 0;
                for (int t = 0; t < turn; t++) {
                    thieves += (held[t] & 1) != 0 && (held[t] >> b & 1) == 0 ? 1 : 0;
                }
                Due.same("thief(0, " + b + ")", x.thief(0, b), thieves);
            }
        }

        /** Of the last law it was seen that it held 9 days ago, of law 1 that it does not today. */
        void today() {
            int last = laws.size() - 1;
            x.seen(last, 9, true);
            x.seen(1, 0, false);
            List<Integer> fitting = new ArrayList<>();
            for (int t = 0; t < turn; t++) {
                if ((held[(t - 9 + turn) % turn] >> last & 1) != 0 && (held[t] >> 1 & 1) == 0) {
                    fitting.add(t);
                }
            }
            int best = -1;
            int worst = 0;
            for (int law = 0; law <= last; law++) {
                int yes = 0;
                for (int t : fitting) {
                    yes += held[t] >> law & 1;
                }
                int left = Math.max(yes, fitting.size() - yes);
                if (best < 0 || left < worst) {
                    best = law;
                    worst = left;
                }
            }
            Due.same("fits(0)", x.fits(0), fitting.size());
            Due.same("fits(1)", x.fits(1), fitting.isEmpty() ? -1 : fitting.get(0));
            Due.same("fits(2)", x.fits(2), fitting.isEmpty() ? -1 : fitting.get(fitting.size() - 1));
            Due.same("look(0)", x.look(0), best);
            Due.same("look(1)", x.look(1), worst);
        }

        int turns(int day) {
            int turned = day;
            for (int still : stills) {
                turned -= still < day ? 1 : 0;
            }
            return turned;
        }

        boolean isFree(int day, int set, int otherSet) {
            int at = turns(day) % bothTurn;
            return (held[at] & set) == 0 && (heldOfOthers[at] & otherSet) == 0;
        }

        /** Till here all that comes in turns has come, behind the last still too. */
        int end(int day) {
            return (int) Math.min(LAST, Math.max(day, 100_000L) + bothTurn + 200);
        }

        int[] days() {
            return new int[] {0, 40_000, 99_950, 100_001, LAST - turn - 3, LAST - 130, LAST};
        }

        void rows() {
            int every = (1 << laws.size()) - 1;
            for (int day : days()) {
                for (int r = 1; r < 99; r += r < 12 ? 1 : 9) {
                    int row = 0;
                    int found = -1;
                    for (int d = day; d <= end(day) && found < 0; d++) {
                        row = isFree(d, every, 0) ? row + 1 : 0;
                        found = row == r ? d - r + 1 : -1;
                    }
                    Due.same("row(" + day + ", " + r + ")", x.row(day, r), found);
                }
            }
        }

        int firstOfAll(int set) {
            for (int t = 0; t < turn; t++) {
                if ((held[t] & set) == set) {
                    return t;
                }
            }
            return -1;
        }

        int mostMeeting(int set) {
            int best = 200;
            long days = 0;
            long of = 1;
            for (int week = 2; week <= 24; week++) {
                int whole = wholeTurn(List.of(new int[] {week, 0}), turn);
                int[] met = new int[week];
                for (int t = 0; t < whole; t++) {
                    met[t % week] += (held[t % turn] & set) != 0 ? 1 : 0;
                }
                for (int day = 0; day < week; day++) {
                    if (met[day] * of > days * whole) {
                        best = 100 * week + day;
                        days = met[day];
                        of = whole;
                    }
                }
            }
            return best;
        }

        void markets(int set, int otherSet) {
            int there = 0;
            for (int t = 0; t < bothTurn; t++) {
                there += (held[t] & set) == 0 && (heldOfOthers[t] & otherSet) == 0 ? 1 : 0;
            }
            Due.same("trade(" + set + ", " + otherSet + ")", x.trade(set, otherSet), there);
            for (int day : days()) {
                int found = -1;
                for (int d = day; d <= end(day) && found < 0; d++) {
                    found = isFree(d, set, otherSet) ? d : -1;
                }
                Due.same("market(" + day + ", " + set + ", " + otherSet + ")", x.market(day, set, otherSet), found);
            }
        }

        void works(int set) {
            for (int many : new int[] {1, 7, 60}) {
                int work = x.work(many, set);
                for (int day : days()) {
                    String arguments = "(" + many + " days barred by " + set + ", " + day + ")";
                    Due.same("done" + arguments, x.done(work, day), done(many, set, day));
                    Due.same("begun" + arguments, x.begun(work, day), begun(many, set, day));
                }
                x.rest();
            }
        }

        int done(int many, int set, int from) {
            int missing = many;
            int barred = 0;
            for (int day = from; day <= LAST && barred <= turn + 3; day++) {
                boolean free = isFree(day, set, 0);
                barred = free ? 0 : barred + 1;
                missing -= free ? 1 : 0;
                if (missing == 0) {
                    return day;
                }
            }
            return -1;
        }

        int begun(int many, int set, int from) {
            int best = -1;
            int fewest = Integer.MAX_VALUE;
            int end = done(many, set, from);
            for (int day = from; day < from + turn && day <= LAST && end >= 0; day++) {
                // without a free day between them the end stays, so it need not be looked for again
                end = day > from && isFree(day - 1, set, 0) ? done(many, set, day) : end;
                if (end >= 0 && end - day < fewest) {
                    best = day;
                    fewest = end - day;
                }
            }
            return best;
        }
    }
}
