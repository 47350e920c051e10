import java.util.ArrayList;
import java.util.Arrays;
import java.util.HashSet;
import java.util.List;
import java.util.NoSuchElementException;
import java.util.Random;
import java.util.Set;
import java.util.concurrent.Callable;

/**
 * Long runs of calls by a seed, each answered by WeekWheels and by a plain telling of the document that looks at one
 * day after the other; every answer, refusal and count must be the same.
 */
public final class WeekWheelsAgainstPlain {
    static final int LAST = 999_999_999;
    static int wrong = 0;
    static long calls = 0;
    static int seed;
    static final List<String> log = new ArrayList<>();

    public static void main(String[] args) {
        int seeds = args.length > 0 ? Integer.parseInt(args[0]) : 160;
        int from = args.length > 1 ? Integer.parseInt(args[1]) : 1;
        for (seed = from; seed < from + seeds && wrong < 10; seed++) {
            new Run(new Random(seed)).go();
        }
        System.out.println(wrong == 0 ? "as the plain telling: " + calls + " calls" : wrong + " answers are not as the plain telling");
        if (wrong != 0) {
            System.exit(1);
        }
    }

    static String answer(Callable<Object> call) {
        try {
            return String.valueOf(call.call());
        } catch (IndexOutOfBoundsException | NoSuchElementException | IllegalArgumentException e) {
            return e.getClass().getSimpleName();
        } catch (Exception e) {
            return "threw " + e;
        }
    }

    static void same(String call, Callable<Object> made, Callable<Object> plain) {
        calls++;
        String got = answer(made);
        String due = answer(plain);
        log.add(call + " = " + due);
        if (!got.equals(due)) {
            wrong++;
            if (wrong < 4) {
                for (String line : log) {
                    System.out.println("    " + line);
                }
            }
            System.out.println("seed " + seed + ": " + call + " answered " + got + ", due is " + due);
        }
    }

    /** One object's calls. */
    static final class Run {
        final Random random;
        final WeekWheels x = new WeekWheels();
        final Plain p = new Plain();
        int left = 505;

        Run(Random random) {
            this.random = random;
        }

        int upTo(int n) {
            return random.nextInt(n);
        }

        boolean oneIn(int n) {
            return random.nextInt(n) == 0;
        }

        void go() {
            log.clear();
            // some runs stay long with one calendar, so that rows get full
            int often = seed % 3 == 0 ? 300 : seed % 4 == 0 ? 60 : 25;
            while (left > 0 && wrong < 10) {
                if (oneIn(often) || left == 505) {
                    tellCalendar();
                } else if (oneIn(9)) {
                    tellWish();
                } else {
                    ask();
                    left--;
                }
            }
        }

        void feed(String text) {
            byte[] bytes = new byte[(text.length() + 19) / 20 * 20];
            for (int i = 0; i < text.length(); i++) {
                bytes[i] = (byte) text.charAt(i);
            }
            for (int i = 0; i < bytes.length; i += 20) {
                int[] five = new int[5];
                for (int k = 0; k < 20; k++) {
                    five[k / 4] = five[k / 4] << 8 | bytes[i + k] & 255;
                }
                same("feed " + text.substring(i, Math.min(i + 20, text.length())), () -> x.feed(five[0], five[1], five[2], five[3], five[4]),
                        () -> p.feed(five));
                left--;
            }
        }

        void tellCalendar() {
            String text = mangled(calendarText());
            feed(text);
            int n = oneIn(40) ? upTo(540) - 10 : Math.min(text.length(), 500);
            same("calendar(" + n + ")", () -> x.calendar(n), () -> p.calendar(n));
            same("fault()", x::fault, () -> p.fault);
            same("tape", () -> x.sums(4), () -> p.tape.size());
            left -= 3;
        }

        void tellWish() {
            String text = mangled(wishText());
            feed(text);
            int n = oneIn(40) ? upTo(300) - 10 : text.length();
            same("wish(" + n + ")", () -> x.wish(n), () -> p.wish(n));
            same("fault()", x::fault, () -> p.fault);
            left -= 2;
        }

        String blanks() {
            return oneIn(4) ? oneIn(3) ? "  " : " " : "";
        }

        String number(int n) {
            return " " + blanks() + (oneIn(15) ? "00" : "") + n;
        }

        static final int[][] POOLS = {{2, 3, 4, 6, 8, 12, 24}, {2, 4, 8, 16}, {3, 9, 18, 6, 2}, {5, 7, 4, 9}, {5, 10, 20, 15, 2, 3},
            {7, 14, 21, 3, 6}, {2, 3, 5, 7}, {24, 18, 12, 20}, {11, 22, 2, 4}, {23, 19, 17, 13}, {13, 17, 19, 3}};

        String calendarText() {
            int[] pool = POOLS[upTo(POOLS.length)];
            StringBuilder out = new StringBuilder();
            int laws = 0;
            int houses = 0;
            List<Integer> weeks = new ArrayList<>();
            int clauses = oneIn(15) ? 62 : 2 + upTo(oneIn(2) ? 8 : 26);
            for (int i = 0; i < clauses; i++) {
                int week = oneIn(30) ? upTo(27) : pool[upTo(pool.length)];
                int day = week < 1 || oneIn(60) ? upTo(25) : upTo(week);
                int kind = clauses > 60 && !oneIn(6) ? 9 : upTo(10);
                out.append(blanks());
                if (kind < 4 && (laws < 12 || oneIn(9))) {
                    out.append("law").append(number(week)).append(number(day));
                    weeks.add(week);
                    laws++;
                } else if (kind < 5) {
                    out.append("other").append(number(week)).append(number(day));
                } else if (kind < 7 && (houses < 10 || oneIn(9))) {
                    out.append("house");
                    houses++;
                } else if (kind < 9 && laws > 0 && (houses > 0 || oneIn(9))) {
                    int law = oneIn(40) ? upTo(14) : upTo(laws);
                    int w = law < laws ? weeks.get(law) : 3;
                    out.append("slip").append(number(oneIn(40) ? upTo(12) : upTo(Math.max(houses, 1)))).append(number(law))
                            .append(number(w < 1 || oneIn(60) ? upTo(25) : upTo(w)));
                } else {
                    int n = clauses > 60 ? 7 : oneIn(2) ? upTo(20) : upTo(3) * 7 + (oneIn(5) ? upTo(100_002) : 0);
                    out.append(clauses > 60 ? "still" + n : "still" + number(n));
                }
                out.append(blanks()).append(";");
            }
            return cut(out.append(blanks()).toString(), 500);
        }

        String cut(String text, int n) {
            if (text.length() <= n) {
                return text;
            }
            int end = text.lastIndexOf(';', n - 1);
            return oneIn(4) || end < 0 ? text.substring(0, n) : text.substring(0, end + 1);
        }

        String mangled(String text) {
            if (!oneIn(5) || text.isEmpty()) {
                return text;
            }
            int at = upTo(text.length());
            switch (upTo(4)) {
                case 0: return text.substring(0, at);
                case 1: return text.substring(0, at) + text.substring(at + 1);
                case 2: return text.substring(0, at) + " a;9[]not law".charAt(upTo(13)) + text.substring(at + 1);
                default: return text.substring(0, at) + (char) (oneIn(4) ? upTo(256) : " az;90[]".charAt(upTo(8))) + text.substring(at + 1);
            }
        }

        String wishText() {
            String text = choice(0);
            for (int i = 0; i < 20 && text.length() > 200; i++) {
                text = choice(0);
            }
            return text.length() > 200 ? "many 0" : text + (text.length() < 198 ? blanks() : "");
        }

        String choice(int depth) {
            StringBuilder out = new StringBuilder(joined(depth));
            while (oneIn(3)) {
                out.append(" or").append(joined(depth));
            }
            return out.toString();
        }

        String joined(int depth) {
            StringBuilder out = new StringBuilder(single(depth));
            while (oneIn(3)) {
                out.append(blanks()).append(" and").append(single(depth));
            }
            return out.toString();
        }

        String single(int depth) {
            int kind = upTo(depth > 7 ? 5 : depth > 0 && oneIn(3) ? 14 : 9);
            if (kind >= 5) {
                return kind % 2 == 0 ? " not" + single(depth + 1) : blanks() + "[" + choice(depth + 1) + blanks() + "]";
            }
            int law = oneIn(20) || p.laws.isEmpty() ? upTo(13) : upTo(p.laws.size());
            if (kind == 0) {
                return " law" + number(law);
            } else if (kind == 1) {
                return " many" + number(oneIn(12) ? upTo(15) : upTo(4));
            } else if (kind == 2) {
                int by = oneIn(30) ? upTo(120) : new int[] {2, 3, 4, 6, 5, 7, 64, 96, 99, 10}[upTo(10)];
                return " day" + number(by) + number(oneIn(30) || by < 1 ? upTo(100) : upTo(by));
            } else if (kind == 3 && (p.houses > 0 || oneIn(9))) {
                return " house" + number(oneIn(20) || p.houses == 0 ? upTo(11) : upTo(p.houses)) + number(law);
            }
            return p.others.isEmpty() && !oneIn(9) ? " law" + number(law)
                    : " town" + number(oneIn(20) || p.others.isEmpty() ? upTo(7) : upTo(p.others.size()));
        }

        int day() {
            switch (upTo(12)) {
                case 0: return LAST - upTo(150);
                case 1: return oneIn(8) ? LAST + 1 + upTo(5) : upTo(LAST);
                case 2: return oneIn(8) ? -1 - upTo(4) : upTo(110_000);
                case 3:
                case 4: return p.stills.isEmpty() ? 3 : Math.max(0, p.stills.get(upTo(p.stills.size())) - 40 + upTo(60));
                default: return upTo(300);
            }
        }

        int some(int size, int most) {
            return oneIn(30) ? random.nextInt() >> upTo(32) : oneIn(6) ? (1 << size) - 1 : random.nextInt() & random.nextInt() & (1 << size) - 1;
        }

        int one(int size) {
            return oneIn(15) || size < 1 ? upTo(size + 3) - 1 : upTo(size);
        }

        int what(int size) {
            return oneIn(25) ? upTo(size + 4) - 2 : upTo(size);
        }

        void ask() {
            int laws = some(p.laws.size(), 12);
            int others = some(p.others.size(), 6);
            int law = one(p.laws.size());
            int law2 = one(p.laws.size());
            int house = one(p.houses);
            int work = one(p.works.size());
            int day = day();
            boolean held = random.nextBoolean();
            int w = what(2);
            int w3 = what(3);
            boolean small = p.wholeTurn(p.laws) <= 3000;
            // some runs are all works, near stills
            switch (seed % 4 == 0 && !oneIn(6) ? 32 + upTo(7) : upTo(45)) {
                case 0: { int v = what(6); same("told(" + v + ")", () -> x.told(v), () -> p.told(v)); break; }
                case 1: same("law(" + law + ", " + w + ")", () -> x.law(law, w), () -> p.law(law, w)); break;
                case 2: same("slip(" + house + ", " + law + ")", () -> x.slip(house, law), () -> p.slip(house, law)); break;
                case 3: { int by = oneIn(15) ? upTo(2000) - 500 : upTo(30);
                    same("turn(" + house + ", " + law + ", " + by + ")", () -> x.turn(house, law, by), () -> p.turn(house, law, by)); break; }
                case 4: same("turned(" + day + ")", () -> x.turned(day), () -> p.turned(day)); break;
                case 5: same("holds(" + day + ")", () -> x.holds(day), () -> p.holds(day)); break;
                case 6: same("inHouse(" + day + ", " + house + ")", () -> x.inHouse(day, house), () -> p.inHouse(day, house)); break;
                case 7: same("clashes(" + day + ")", () -> x.clashes(day), () -> p.clashes(day)); break;
                case 8: case 9: same("such(" + day + ")", () -> x.such(day), () -> p.such(day)); break;
                case 10: case 11: case 12: same("next(" + day + ")", () -> x.next(day), () -> p.next(day)); break;
                case 13: same("never(" + laws + ")", () -> x.never(laws), () -> p.never(laws)); break;
                case 14: same("together(" + laws + ")", () -> x.together(laws), () -> p.together(laws)); break;
                case 15: same("most(" + w + ")", () -> x.most(w), () -> p.most(w)); break;
                case 16: { int k = what(5); same("count(" + k + ")", () -> x.count(k), () -> p.count(k)); break; }
                case 17: case 18: { int r = oneIn(20) ? upTo(120) - 5 : 1 + upTo(oneIn(3) ? 12 : 4);
                    same("row(" + day + ", " + r + ")", () -> x.row(day, r), () -> p.row(day, r)); break; }
                case 19: { int week = oneIn(3) ? 0 : oneIn(15) ? upTo(30) - 2 : 2 + upTo(23);
                    same("free(" + laws + ", " + week + ", " + w + ")", () -> x.free(laws, week, w), () -> p.free(laws, week, w)); break; }
                case 20: if (small) { same("meeting(" + laws + ")", () -> x.meeting(laws), () -> p.meeting(laws)); } break;
                case 21: askWeeks(); break;
                case 22: case 23: { int ago = oneIn(20) ? upTo(14) - 2 : upTo(10);
                    same("seen(" + law + ", " + ago + ", " + held + ")", () -> x.seen(law, ago, held), () -> p.seen(law, ago, held)); break; }
                case 24: same("fits(" + w3 + ")", () -> x.fits(w3), () -> p.fits(w3)); break;
                case 25: same("look(" + w + ")", () -> x.look(w), () -> p.look(w)); break;
                case 26: case 27: same("did(" + house + ", " + law + ", " + day + ", " + held + ")", () -> x.did(house, law, day, held),
                        () -> p.did(house, law, day, held)); break;
                case 28: case 29: same("slipped(" + house + ", " + w3 + ")", () -> x.slipped(house, w3), () -> p.slipped(house, w3)); break;
                case 30: if (oneIn(3)) { same("forget()", x::forget, p::forget); } break;
                case 31: same("right(" + w + ")", () -> x.right(w), () -> p.right(w)); break;
                case 32: case 33: { int d = oneIn(20) ? upTo(70) - 3 : 1 + upTo(oneIn(4) ? 60 : seed % 4 == 0 ? 3 : 7);
                    same("work(" + d + ", " + laws + ")", () -> x.work(d, laws), () -> p.work(d, laws)); break; }
                case 34: same("done(" + work + ", " + day + ")", () -> x.done(work, day), () -> p.done(work, day)); break;
                case 35: if (small) { same("begun(" + work + ", " + day + ")", () -> x.begun(work, day), () -> p.begun(work, day)); } break;
                case 36: case 37: if (p.works.size() < 6 || oneIn(20)) {
                    same("soonest(" + day + ", " + w + ")", () -> x.soonest(day, w), () -> p.soonest(day, w)); } break;
                case 38: if (oneIn(2)) { same("rest()", x::rest, p::rest); } break;
                case 39: same("thief(" + law + ", " + law2 + ")", () -> x.thief(law, law2), () -> p.thief(law, law2)); break;
                case 40: same("guard(" + law + ", " + law2 + ")", () -> x.guard(law, law2), () -> p.guard(law, law2)); break;
                case 41: same("trade(" + laws + ", " + others + ")", () -> x.trade(laws, others), () -> p.trade(laws, others)); break;
                case 42: same("market(" + day + ", " + laws + ", " + others + ")", () -> x.market(day, laws, others),
                        () -> p.market(day, laws, others)); break;
                case 43: if (held) { same("image()", x::image, p::image); } else { same("restore()", x::restore, p::restore); } break;
                default: { int v = what(5);
                    same("status(" + v + ")", () -> x.status(v), () -> p.status(v));
                    same("sums(" + v + ")", () -> x.sums(v), () -> p.sums(v)); }
            }
        }

        void askWeeks() {
            int[] pool = POOLS[upTo(POOLS.length)];
            long told = 0;
            int size = oneIn(20) ? upTo(9) : 2 + upTo(4);
            long product = 1;
            long turn = 1;
            for (int i = 0; i < size; i++) {
                int week = oneIn(40) ? upTo(100) : pool[upTo(pool.length)];
                told = 100 * told + week;
                product *= Math.max(week, 1);
                turn = Plain.turnOf((int) Math.min(turn, 1_000_000), Math.max(week, 1));
            }
            long weeks = oneIn(40) ? -told : told;
            int n = oneIn(20) ? upTo(9) - 1 : 1 + upTo(3);
            if (product * turn < 3_000_000) {
                same("weeks(" + weeks + ", " + n + ")", () -> x.weeks(weeks, n), () -> p.weeks(weeks, n));
            }
        }
    }

    static final class Fault extends Exception {
        private static final long serialVersionUID = 1L;
        final int number;
        final int place;

        Fault(int number, int place) {
            this.number = number;
            this.place = place;
        }
    }

    /** Words, numbers and signs of a text with where they begin; the last is the end. */
    static final class Tokens {
        final List<String> text = new ArrayList<>();
        final List<Integer> place = new ArrayList<>();
        int at = 0;

        Tokens(String all) {
            java.util.regex.Matcher m = java.util.regex.Pattern.compile("[a-z]+|[0-9]+|[^ ]", java.util.regex.Pattern.DOTALL).matcher(all);
            while (m.find()) {
                text.add(m.group());
                place.add(m.start());
            }
            text.add("");
            place.add(all.length());
        }

        String see() {
            return text.get(at);
        }

        int here() {
            return place.get(at);
        }

        void must(String what) throws Fault {
            if (!see().equals(what)) {
                throw new Fault(1, here());
            }
            at++;
        }

        int number(int least, int most) throws Fault {
            String t = see();
            if (t.isEmpty() || t.charAt(0) < '0' || t.charAt(0) > '9') {
                throw new Fault(1, here());
            }
            java.math.BigInteger n = new java.math.BigInteger(t);
            if (n.compareTo(java.math.BigInteger.valueOf(least)) < 0 || n.compareTo(java.math.BigInteger.valueOf(most)) > 0) {
                throw new Fault(2, here());
            }
            at++;
            return n.intValue();
        }
    }

    interface Test {
        boolean on(int day);
    }

    /** The document told plainly. */
    static final class Plain {
        List<Integer> tape = new ArrayList<>();
        List<int[]> laws = new ArrayList<>();
        List<int[]> others = new ArrayList<>();
        int houses = 0;
        int[][] slips = new int[10][12];
        List<Integer> stills = new ArrayList<>();
        Test wish = day -> true;
        int wishTurn = 1;
        int fault = -1;
        List<Object[]> seen = new ArrayList<>();
        List<Object[]> deeds = new ArrayList<>();
        List<int[]> works = new ArrayList<>();
        List<Object[]> images = new ArrayList<>();
        int[] refused = new int[3];

        static int turnOf(int a, int b) {
            long turn = a;
            while (turn % b != 0) {
                turn += a;
            }
            return (int) Math.min(turn, Integer.MAX_VALUE);
        }

        int wholeTurn(List<int[]> some) {
            int turn = 1;
            for (int[] law : some) {
                turn = turn > 200_000 ? turn : turnOf(turn, law[0]);
            }
            return turn;
        }

        List<int[]> both() {
            List<int[]> both = new ArrayList<>(laws);
            both.addAll(others);
            return both;
        }

        void needDay(int day) {
            if (day < 0 || day > LAST) {
                refused[0]++;
                throw new IndexOutOfBoundsException();
            }
        }

        void needOne(int i, int size) {
            if (i < 0 || i >= size) {
                refused[1]++;
                throw new NoSuchElementException();
            }
        }

        void need(boolean good) {
            if (!good) {
                refused[2]++;
                throw new IllegalArgumentException();
            }
        }

        void needWhat(int what, int size) {
            need(what >= 0 && what < size);
        }

        void needBits(int bits, List<int[]> of) {
            need(bits >= 0 && bits < 1 << of.size());
        }

        int feed(int[] five) {
            if (tape.size() + 20 > 500) {
                return -1;
            }
            for (int i = 0; i < 20; i++) {
                tape.add(five[i / 4] >> 24 - 8 * (i % 4) & 255);
            }
            return tape.size();
        }

        String take(int n) {
            StringBuilder out = new StringBuilder();
            for (int i = 0; i < n; i++) {
                out.append((char) (int) tape.get(i));
            }
            tape.clear();
            return out.toString();
        }

        int calendar(int n) {
            need(n >= 0 && n <= tape.size());
            Plain told = new Plain();
            try {
                told.tellCalendar(new Tokens(take(n)), n);
            } catch (Fault f) {
                fault = f.place;
                return f.number - 10;
            }
            fault = -1;
            laws = told.laws;
            others = told.others;
            houses = told.houses;
            slips = told.slips;
            stills = told.stills;
            wish = day -> true;
            wishTurn = 1;
            seen.clear();
            deeds.clear();
            works.clear();
            images.clear();
            return laws.size();
        }

        void tellCalendar(Tokens t, int n) throws Fault {
            Set<String> words = new HashSet<>(Arrays.asList("law", "other", "house", "slip", "still"));
            for (int clauses = 0; !t.see().isEmpty(); clauses++) {
                String word = t.see();
                int place = t.here();
                if (!words.contains(word)) {
                    throw new Fault(1, place);
                }
                if (clauses == 60 || word.equals("law") && laws.size() == 12 || word.equals("other") && others.size() == 6
                        || word.equals("house") && houses == 10 || word.equals("still") && stills.size() == 3) {
                    throw new Fault(3, place);
                }
                t.at++;
                if (word.equals("law") || word.equals("other")) {
                    int w = t.number(2, 24);
                    (word.equals("law") ? laws : others).add(new int[] {w, t.number(0, w - 1)});
                } else if (word.equals("house")) {
                    houses++;
                } else if (word.equals("slip")) {
                    int h = t.number(0, houses - 1);
                    int l = t.number(0, laws.size() - 1);
                    slips[h][l] = t.number(0, laws.get(l)[0] - 1);
                } else {
                    int still = t.number(0, 99_999);
                    if (!stills.contains(still)) {
                        stills.add(still);
                    }
                }
                t.must(";");
            }
            if (wholeTurn(both()) > 100_000) {
                throw new Fault(4, n);
            }
        }

        int wish(int n) {
            need(n >= 0 && n <= tape.size() && n <= 200);
            List<int[]> divisors = both();
            Test test;
            try {
                Tokens t = new Tokens(take(n));
                test = choice(t, 0, divisors);
                t.must("");
                if (wholeTurn(divisors) > 100_000) {
                    throw new Fault(4, n);
                }
            } catch (Fault f) {
                fault = f.place;
                return f.number - 10;
            }
            fault = -1;
            wish = test;
            wishTurn = wholeTurn(divisors);
            return 1;
        }

        Test choice(Tokens t, int open, List<int[]> divisors) throws Fault {
            Test left = joined(t, open, divisors);
            while (t.see().equals("or")) {
                t.at++;
                Test one = left;
                Test two = joined(t, open, divisors);
                left = day -> one.on(day) || two.on(day);
            }
            return left;
        }

        Test joined(Tokens t, int open, List<int[]> divisors) throws Fault {
            Test left = single(t, open, divisors);
            while (t.see().equals("and")) {
                t.at++;
                Test one = left;
                Test two = single(t, open, divisors);
                left = day -> one.on(day) && two.on(day);
            }
            return left;
        }

        Test single(Tokens t, int open, List<int[]> divisors) throws Fault {
            String word = t.see();
            if ((word.equals("[") || word.equals("not")) && open == 6) {
                throw new Fault(3, t.here());
            }
            if (!Arrays.asList("[", "not", "law", "many", "day", "house", "town").contains(word)) {
                throw new Fault(1, t.here());
            }
            t.at++;
            if (word.equals("not")) {
                Test of = single(t, open + 1, divisors);
                return day -> !of.on(day);
            } else if (word.equals("[")) {
                Test of = choice(t, open + 1, divisors);
                t.must("]");
                return of;
            } else if (word.equals("law")) {
                int k = t.number(0, laws.size() - 1);
                return day -> on(laws.get(k), turns(day));
            } else if (word.equals("many")) {
                int many = t.number(0, 12);
                return day -> Integer.bitCount(bitsOn(day)) == many;
            } else if (word.equals("day")) {
                int by = t.number(2, 99);
                int rest = t.number(0, by - 1);
                divisors.add(new int[] {by, rest});
                return day -> day % by == rest;
            } else if (word.equals("house")) {
                int h = t.number(0, houses - 1);
                int k = t.number(0, laws.size() - 1);
                return day -> on(laws.get(k), turns(day) + slips[h][k]);
            }
            int k = t.number(0, others.size() - 1);
            return day -> on(others.get(k), turns(day));
        }

        int turns(int day) {
            int turns = day;
            for (int still : stills) {
                turns -= still < day ? 1 : 0;
            }
            return turns;
        }

        static boolean on(int[] law, int turns) {
            return turns % law[0] == law[1];
        }

        int bitsOn(int day) {
            int bits = 0;
            int turns = turns(day);
            for (int i = 0; i < laws.size(); i++) {
                bits |= on(laws.get(i), turns) ? 1 << i : 0;
            }
            return bits;
        }

        int bitsOfTurns(int turns) {
            int bits = 0;
            for (int i = 0; i < laws.size(); i++) {
                bits |= on(laws.get(i), turns) ? 1 << i : 0;
            }
            return bits;
        }

        int bitsIn(int day, int house) {
            int bits = 0;
            for (int i = 0; i < laws.size(); i++) {
                bits |= on(laws.get(i), turns(day) + slips[house][i]) ? 1 << i : 0;
            }
            return bits;
        }

        int told(int what) {
            needWhat(what, 6);
            return new int[] {laws.size(), others.size(), houses, stills.size(), wholeTurn(laws), wholeTurn(both())}[what];
        }

        int law(int law, int what) {
            needOne(law, laws.size());
            needWhat(what, 2);
            return laws.get(law)[what];
        }

        int slip(int house, int law) {
            needOne(house, houses);
            needOne(law, laws.size());
            return slips[house][law];
        }

        int turn(int house, int law, int by) {
            needOne(house, houses);
            needOne(law, laws.size());
            need(by >= 0 && by <= 999);
            return slips[house][law] = (slips[house][law] + by) % laws.get(law)[0];
        }

        int turned(int day) {
            needDay(day);
            return turns(day);
        }

        int holds(int day) {
            needDay(day);
            return bitsOn(day);
        }

        int inHouse(int day, int house) {
            needDay(day);
            needOne(house, houses);
            return bitsIn(day, house);
        }

        int clashes(int day) {
            needDay(day);
            int clashes = 0;
            for (int h = 0; h < houses; h++) {
                clashes += bitsIn(day, h) != bitsOn(day) ? 1 : 0;
            }
            return clashes;
        }

        boolean such(int day) {
            needDay(day);
            return wish.on(day);
        }

        int next(int day) {
            needDay(day);
            for (int d = day; d <= LAST && d <= Math.max(day, 100_000) + wishTurn; d++) {
                if (wish.on(d)) {
                    return d;
                }
            }
            return -1;
        }

        int firstOfAll(int bits) {
            for (int t = 0; t < wholeTurn(laws); t++) {
                if ((bitsOfTurns(t) & bits) == bits) {
                    return t;
                }
            }
            return -1;
        }

        int never(int bits) {
            needBits(bits, laws);
            for (int i = 0; i < laws.size(); i++) {
                for (int j = i + 1; j < laws.size(); j++) {
                    int two = 1 << i | 1 << j;
                    if ((bits & two) == two && firstOfAll(two) < 0) {
                        return 100 * i + j;
                    }
                }
            }
            return -1;
        }

        int together(int bits) {
            needBits(bits, laws);
            return firstOfAll(bits);
        }

        int most(int what) {
            needWhat(what, 2);
            int best = 0;
            for (int t = 0; t < wholeTurn(laws); t++) {
                int bits = bitsOfTurns(t);
                int more = Integer.bitCount(bits) - Integer.bitCount(best);
                best = more > 0 || more == 0 && bits < best ? bits : best;
            }
            return what == 0 ? Integer.bitCount(best) : best;
        }

        int count(int k) {
            needWhat(k, 13);
            int days = 0;
            for (int t = 0; t < wholeTurn(laws); t++) {
                days += Integer.bitCount(bitsOfTurns(t)) == k ? 1 : 0;
            }
            return days;
        }

        int row(int day, int r) {
            needDay(day);
            need(r >= 1 && r <= 99);
            int free = 0;
            for (int d = day; d <= LAST && d <= Math.max(day, 100_000) + 200_000; d++) {
                free = bitsOn(d) == 0 ? free + 1 : 0;
                if (free == r) {
                    return d - r + 1;
                }
            }
            return -1;
        }

        int free(int bits, int week, int what) {
            needBits(bits, laws);
            need(week == 0 || week >= 2 && week <= 24);
            needWhat(what, 2);
            int many = 0;
            int first = -1;
            for (int w = 2; w <= 24; w++) {
                for (int d = 0; d < w && (week == 0 || week == w); d++) {
                    boolean meets = false;
                    for (int i = 0; i < laws.size(); i++) {
                        for (int t = d; t < w * 24 * 24 && (bits >> i & 1) == 1; t += w) {
                            meets |= on(laws.get(i), t);
                        }
                    }
                    if (!meets) {
                        many++;
                        first = first < 0 ? 100 * w + d : first;
                    }
                }
            }
            return what == 0 ? many : first;
        }

        int meeting(int bits) {
            needBits(bits, laws);
            long best = -1;
            long bestTurn = 1;
            int law = -1;
            for (int w = 2; w <= 24; w++) {
                int turn = turnOf(wholeTurn(laws), w);
                long[] met = new long[w];
                for (int t = 0; t < turn; t++) {
                    met[t % w] += (bitsOfTurns(t) & bits) != 0 ? 1 : 0;
                }
                for (int d = 0; d < w; d++) {
                    if (law < 0 || met[d] * bestTurn > best * turn) {
                        best = met[d];
                        bestTurn = turn;
                        law = 100 * w + d;
                    }
                }
            }
            return law;
        }

        long weeks(long told, int n) {
            List<Integer> weeks = new ArrayList<>();
            for (long rest = told; rest > 0; rest /= 100) {
                weeks.add(0, (int) (rest % 100));
            }
            need(weeks.size() >= 2 && weeks.size() <= 6 && weeks.stream().allMatch(w -> w >= 2 && w <= 24) && n >= 1 && n <= 6);
            int turn = 1;
            for (int w : weeks) {
                turn = turnOf(turn, w);
            }
            int[] days = new int[weeks.size()];
            while (true) {
                int together = 0;
                for (int t = 0; t < turn && together <= n; t++) {
                    together = 0;
                    for (int i = 0; i < days.length; i++) {
                        together += t % weeks.get(i) == days[i] ? 1 : 0;
                    }
                }
                if (together <= n) {
                    long out = 0;
                    for (int d : days) {
                        out = 100 * out + d;
                    }
                    return out;
                }
                int i = days.length - 1;
                while (i >= 0 && ++days[i] == weeks.get(i)) {
                    days[i--] = 0;
                }
                if (i < 0) {
                    return -1;
                }
            }
        }

        int seen(int law, int ago, boolean held) {
            needOne(law, laws.size());
            need(ago >= 0 && ago <= 9);
            if (seen.size() == 20) {
                return -1;
            }
            seen.add(new Object[] {law, ago, held});
            return seen.size();
        }

        List<Integer> fitting() {
            int turn = wholeTurn(laws);
            List<Integer> days = new ArrayList<>();
            for (int t = 0; t < turn; t++) {
                boolean fits = true;
                for (Object[] s : seen) {
                    fits &= on(laws.get((Integer) s[0]), t + 24 * turn - (Integer) s[1]) == (Boolean) s[2];
                }
                if (fits) {
                    days.add(t);
                }
            }
            return days;
        }

        int fits(int what) {
            needWhat(what, 3);
            List<Integer> days = fitting();
            return what == 0 ? days.size() : days.isEmpty() ? -1 : days.get(what == 1 ? 0 : days.size() - 1);
        }

        int look(int what) {
            needWhat(what, 2);
            List<Integer> days = fitting();
            int best = -1;
            int fewest = days.size();
            for (int i = 0; i < laws.size(); i++) {
                int held = 0;
                for (int t : days) {
                    held += on(laws.get(i), t) ? 1 : 0;
                }
                int worst = Math.max(held, days.size() - held);
                if (best < 0 || worst < fewest) {
                    best = i;
                    fewest = worst;
                }
            }
            return what == 0 ? best : fewest;
        }

        int did(int house, int law, int day, boolean held) {
            needDay(day);
            needOne(house, houses);
            needOne(law, laws.size());
            if (deeds.size() == 20) {
                return -1;
            }
            deeds.add(new Object[] {house, law, day, held});
            return deeds.size();
        }

        int slipped(int house, int what) {
            needOne(house, houses);
            needWhat(what, 3);
            int many = 0;
            int first = -1;
            int likeliest = -1;
            int most = -1;
            for (int l = 0; l < laws.size(); l++) {
                int w = laws.get(l)[0];
                for (int s = 0; s < w; s++) {
                    boolean explains = true;
                    for (Object[] deed : deeds) {
                        int k = (Integer) deed[1];
                        boolean on = on(laws.get(k), turns((Integer) deed[2]) + (k == l ? s : slips[house][k]));
                        explains &= (Integer) deed[0] != house || on == (Boolean) deed[3];
                    }
                    if (explains) {
                        many++;
                        first = first < 0 ? 100 * l + s : first;
                        int weight = 24 - Math.min(s, w - s);
                        if (weight > most) {
                            most = weight;
                            likeliest = 100 * l + s;
                        }
                    }
                }
            }
            return new int[] {many, first, likeliest}[what];
        }

        int forget() {
            int gone = seen.size() + deeds.size();
            seen.clear();
            deeds.clear();
            return gone;
        }

        int right(int what) {
            needWhat(what, 2);
            int best = 0;
            for (int bits = 0; bits < 1 << houses; bits++) {
                String one = null;
                boolean alike = true;
                for (int h = 0; h < houses; h++) {
                    if ((bits >> h & 1) == 1) {
                        String all = Arrays.toString(slips[h]);
                        alike &= one == null || one.equals(all);
                        one = all;
                    }
                }
                int more = Integer.bitCount(bits) - Integer.bitCount(best);
                if (alike && (more > 0 || more == 0 && Integer.numberOfTrailingZeros(bits) < Integer.numberOfTrailingZeros(best))) {
                    best = bits;
                }
            }
            return what == 0 ? houses - Integer.bitCount(best) : best;
        }

        int work(int d, int bits) {
            need(d >= 1 && d <= 60);
            needBits(bits, laws);
            if (works.size() == 8) {
                return -1;
            }
            works.add(new int[] {d, bits});
            return works.size() - 1;
        }

        int doneOn(int[] work, int day) {
            int missing = work[0];
            int without = 0;
            for (int d = day; d <= LAST && without < 100_010; d++) {
                without++;
                if ((bitsOn(d) & work[1]) == 0) {
                    without = 0;
                    missing--;
                }
                if (missing == 0) {
                    return d;
                }
            }
            return -1;
        }

        int done(int work, int day) {
            needDay(day);
            needOne(work, works.size());
            return doneOn(works.get(work), day);
        }

        int begun(int work, int day) {
            needDay(day);
            needOne(work, works.size());
            int best = -1;
            int fewest = 0;
            for (int d = day; d < day + wholeTurn(laws) && d <= LAST; d++) {
                int done = doneOn(works.get(work), d);
                if (done < 0) {
                    break;
                }
                if (best < 0 || done - d + 1 < fewest) {
                    best = d;
                    fewest = done - d + 1;
                }
            }
            return best;
        }

        int bestEnd;
        int bestOrder;

        void tryOrders(int day, int used, int order, int size) {
            if (size == works.size()) {
                if (bestEnd < -1 || day - 1 < bestEnd) {
                    bestEnd = day - 1;
                    bestOrder = order;
                }
                return;
            }
            for (int w = 0; w < works.size(); w++) {
                int done = (used >> w & 1) == 1 ? -1 : doneOn(works.get(w), day);
                if (done >= 0) {
                    tryOrders(done + 1, used | 1 << w, 10 * order + w, size + 1);
                }
            }
        }

        int soonest(int day, int what) {
            needDay(day);
            needWhat(what, 2);
            for (int[] work : works) {
                if (doneOn(work, day) < 0) {
                    return -1;
                }
            }
            bestEnd = -2;
            bestOrder = -1;
            tryOrders(day, 0, 0, 0);
            return what == 0 ? Math.max(bestEnd, -1) : bestOrder;
        }

        int rest() {
            int gone = works.size();
            works.clear();
            return gone;
        }

        int thief(int a, int b) {
            needOne(a, laws.size());
            needOne(b, laws.size());
            need(a != b);
            int days = 0;
            for (int t = 0; t < wholeTurn(laws); t++) {
                days += on(laws.get(a), t) && !on(laws.get(b), t) ? 1 : 0;
            }
            return days;
        }

        int guard(int a, int b) {
            needOne(a, laws.size());
            needOne(b, laws.size());
            need(a != b);
            for (int w = 24; w >= 2; w--) {
                for (int d = 0; d < w; d++) {
                    boolean all = true;
                    boolean any = false;
                    for (int t = 0; t < 24 * 24 * 24 && all; t++) {
                        boolean thief = on(laws.get(a), t) && !on(laws.get(b), t);
                        any |= thief;
                        all &= !thief || t % w == d;
                    }
                    if (any && all) {
                        return 100 * w + d;
                    }
                }
            }
            return -1;
        }

        boolean tradeOn(int turns, int bits, int otherBits) {
            boolean barred = (bitsOfTurns(turns) & bits) != 0;
            for (int i = 0; i < others.size(); i++) {
                barred |= (otherBits >> i & 1) == 1 && on(others.get(i), turns);
            }
            return !barred;
        }

        int trade(int bits, int otherBits) {
            needBits(bits, laws);
            needBits(otherBits, others);
            int days = 0;
            for (int t = 0; t < wholeTurn(both()); t++) {
                days += tradeOn(t, bits, otherBits) ? 1 : 0;
            }
            return days;
        }

        int market(int day, int bits, int otherBits) {
            needDay(day);
            needBits(bits, laws);
            needBits(otherBits, others);
            for (int d = day; d <= LAST && d < day + 100_010; d++) {
                if (tradeOn(turns(d), bits, otherBits)) {
                    return d;
                }
            }
            return -1;
        }

        int image() {
            if (images.size() == 3) {
                return -1;
            }
            int[][] copy = new int[10][];
            for (int h = 0; h < 10; h++) {
                copy[h] = slips[h].clone();
            }
            images.add(new Object[] {copy, new ArrayList<>(seen), new ArrayList<>(deeds), new ArrayList<>(works)});
            return images.size();
        }

        @SuppressWarnings("unchecked")
        int restore() {
            if (images.isEmpty()) {
                return -1;
            }
            Object[] image = images.remove(images.size() - 1);
            slips = (int[][]) image[0];
            seen = (List<Object[]>) image[1];
            deeds = (List<Object[]>) image[2];
            works = (List<int[]>) image[3];
            return images.size();
        }

        int status(int what) {
            return what >= 0 && what < 3 ? refused[what] : -1;
        }

        int sums(int what) {
            return what < 0 || what > 4 ? -1
                    : new int[] {seen.size(), deeds.size(), works.size(), images.size(), tape.size()}[what];
        }
    }
}
