import java.util.NoSuchElementException;

/** Laws that each have a week of their own, houses whose wheels slipped, and what the days of such a town are like. */
public final class WeekWheels {
    public static final int NONE = -1;

    private static final int LAST_DAY = 999999999;
    private static final int SHORTEST_WEEK = 2;
    private static final int LONGEST_WEEK = 24;
    private static final int LONGEST_TURN = 100000;
    private static final int MOST_LAWS = 12;
    private static final int MOST_OTHERS = 6;
    private static final int MOST_HOUSES = 10;
    private static final int MOST_STILLS = 3;
    private static final int MOST_SIGHTS = 20;
    private static final int MOST_DEEDS = 20;
    private static final int MOST_WORKS = 8;
    private static final int LONGEST_WORK = 60;
    private static final int MOST_IMAGES = 3;
    private static final int LONGEST_WISH = 200;
    private static final int FED_AT_ONCE = 20;
    private static final int BLOCK = 64;

    private final Tape tape;
    private final Calendar calendar;
    private final Calendar newCalendar;
    private final State state;
    private final State[] images;
    private int imageCount;
    private final Wish wish;
    private final Wish newWish;
    private final WishReader wishReader;
    private final FreeDays freeDays;
    private final Works works;
    private final Today today;
    private final WeekSetter weekSetter;
    private int faultPlace;
    private int noDays;
    private int noElements;
    private int noArguments;

    public WeekWheels() {
        Tape newTape = new Tape();
        Calendar town = new Calendar();
        State present = new State();
        FreeDays days = new FreeDays(town);
        tape = newTape;
        calendar = town;
        newCalendar = new Calendar();
        state = present;
        images = new State[MOST_IMAGES];
        for (int i = 0; i < MOST_IMAGES; i++) {
            images[i] = new State();
        }
        wish = new Wish(town, present);
        newWish = new Wish(town, present);
        wishReader = new WishReader(newTape, town);
        freeDays = days;
        works = new Works(days, present);
        today = new Today(town, present);
        weekSetter = new WeekSetter();
        faultPlace = NONE;
    }

    public int feed(int a, int b, int c, int d, int e) {
        if (tape.size + FED_AT_ONCE > Tape.ROOM) {
            return NONE;
        }
        tape.put(a);
        tape.put(b);
        tape.put(c);
        tape.put(d);
        tape.put(e);
        return tape.size;
    }

    public int calendar(int n) throws IllegalArgumentException {
        need(n >= 0 && n <= tape.size);
        tape.open(n);
        newCalendar.read(tape);
        int reason = closeText();
        if (reason != 0) {
            return reason - 10;
        }
        calendar.copy(newCalendar);
        wish.clear();
        state.begin(calendar);
        imageCount = 0;
        return calendar.own.size;
    }

    public int wish(int n) throws IllegalArgumentException {
        need(n >= 0 && n <= LONGEST_WISH && n <= tape.size);
        tape.open(n);
        wishReader.read(newWish);
        int reason = closeText();
        if (reason != 0) {
            return reason - 10;
        }
        wish.copy(newWish);
        return 1;
    }

    public int fault() {
        return faultPlace;
    }

    public int told(int what) throws IllegalArgumentException {
        need(what >= 0 && what <= 5);
        switch (what) {
            case 0: return calendar.own.size;
            case 1: return calendar.others.size;
            case 2: return calendar.houses;
            case 3: return calendar.stills;
            case 4: return calendar.wholeTurn;
            default: return calendar.bothTurn;
        }
    }

    public int law(int law, int what) throws NoSuchElementException, IllegalArgumentException {
        needLaw(law);
        needEither(what);
        return what == 0 ? calendar.own.weekOf(law) : calendar.own.dayOf(law);
    }

    public int slip(int house, int law) throws NoSuchElementException {
        needHouse(house);
        needLaw(law);
        return state.aheadOf(house, law);
    }

    public int turn(int house, int law, int by) throws NoSuchElementException, IllegalArgumentException {
        needHouse(house);
        needLaw(law);
        need(by >= 0 && by <= 999);
        int ahead = left(state.aheadOf(house, law) + by, calendar.own.weekOf(law));
        state.setAhead(house, law, ahead);
        return ahead;
    }

    public int turned(int day) throws IndexOutOfBoundsException {
        needDay(day);
        return calendar.turnsOn(day);
    }

    public int holds(int day) throws IndexOutOfBoundsException {
        needDay(day);
        return lawsOfTown(day);
    }

    public int inHouse(int day, int house) throws IndexOutOfBoundsException, NoSuchElementException {
        needDay(day);
        needHouse(house);
        return lawsOfHouse(day, house);
    }

    public int clashes(int day) throws IndexOutOfBoundsException {
        needDay(day);
        int unlike = 0;
        for (int house = 0; house < calendar.houses; house++) {
            if (lawsOfHouse(day, house) != lawsOfTown(day)) {
                unlike++;
            }
        }
        return unlike;
    }

    public boolean such(int day) throws IndexOutOfBoundsException {
        needDay(day);
        return (wish.daysFrom(day, calendar.turnsOn(day)) & 1L) != 0;
    }

    public int next(int day) throws IndexOutOfBoundsException {
        needDay(day);
        return wish.firstFrom(day);
    }

    public int never(int laws) throws IllegalArgumentException {
        needLaws(laws);
        for (int i = 0; i < calendar.own.size; i++) {
            int apart = laws & ~calendar.own.meetingWith(i);
            for (int j = i + 1; j < calendar.own.size && isIn(i, laws); j++) {
                if (isIn(j, apart)) {
                    return 100 * i + j;
                }
            }
        }
        return NONE;
    }

    public int together(int laws) throws IllegalArgumentException {
        needLaws(laws);
        return calendar.own.firstDayOfAll(laws);
    }

    public int most(int what) throws IllegalArgumentException {
        needEither(what);
        int set = calendar.own.greatestSet();
        return what == 0 ? Integer.bitCount(set) : set;
    }

    public int count(int k) throws IllegalArgumentException {
        need(k >= 0 && k <= MOST_LAWS);
        int days = 0;
        for (int from = 0; from < calendar.wholeTurn; from += BLOCK) {
            calendar.own.tally(from);
            days += Long.bitCount(calendar.own.justSoMany(k) & low(calendar.wholeTurn - from));
        }
        return days;
    }

    public int row(int day, int r) throws IndexOutOfBoundsException, IllegalArgumentException {
        needDay(day);
        need(r >= 1 && r <= 99);
        freeDays.bar(all(calendar.own.size), 0);
        return freeDays.firstRow(day, r);
    }

    public int free(int laws, int week, int what) throws IllegalArgumentException {
        needLaws(laws);
        need(week == 0 || isWeek(week));
        needEither(what);
        int there = 0;
        int first = NONE;
        for (int w = SHORTEST_WEEK; w <= LONGEST_WEEK; w++) {
            for (int d = 0; d < w && (week == 0 || week == w); d++) {
                if (calendar.own.noneMeets(laws, w, d)) {
                    there++;
                    first = first == NONE ? 100 * w + d : first;
                }
            }
        }
        return what == 0 ? there : first;
    }

    public int meeting(int laws) throws IllegalArgumentException {
        needLaws(laws);
        freeDays.bar(laws, 0);
        return freeDays.mostBarredLaw();
    }

    public long weeks(long told, int n) throws IllegalArgumentException {
        need(weekSetter.take(told) && n >= 1 && n <= WeekSetter.MOST_WEEKS);
        return weekSetter.firstDays(n);
    }

    public int seen(int law, int ago, boolean held) throws NoSuchElementException, IllegalArgumentException {
        needLaw(law);
        need(ago >= 0 && ago <= 9);
        return state.addSight(law, ago, held);
    }

    public int fits(int what) throws IllegalArgumentException {
        need(what >= 0 && what <= 2);
        today.survey();
        switch (what) {
            case 0: return today.fitting;
            case 1: return today.first;
            default: return today.last;
        }
    }

    public int look(int what) throws IllegalArgumentException {
        needEither(what);
        today.survey();
        int law = today.tellingLaw();
        return what == 0 ? law : today.leftAtWorst(law);
    }

    public int did(int house, int law, int day, boolean held) throws IndexOutOfBoundsException, NoSuchElementException {
        needDay(day);
        needHouse(house);
        needLaw(law);
        return state.addDeed(house, law, calendar.turnsOn(day), held);
    }

    public int slipped(int house, int what) throws NoSuchElementException, IllegalArgumentException {
        needHouse(house);
        need(what >= 0 && what <= 2);
        int there = 0;
        int first = NONE;
        int likeliest = NONE;
        int weight = 0;
        for (int law = 0; law < calendar.own.size; law++) {
            int week = calendar.own.weekOf(law);
            for (int s = 0; s < week; s++) {
                if (explains(house, law, s)) {
                    there++;
                    first = first == NONE ? 100 * law + s : first;
                    int weighs = 24 - Math.min(s, week - s);
                    likeliest = weighs > weight ? 100 * law + s : likeliest;
                    weight = Math.max(weight, weighs);
                }
            }
        }
        return what == 0 ? there : what == 1 ? first : likeliest;
    }

    public int forget() {
        int gone = state.sights + state.deeds;
        state.sights = 0;
        state.deeds = 0;
        return gone;
    }

    public int right(int what) throws IllegalArgumentException {
        needEither(what);
        int stay = 0;
        for (int house = 0; house < calendar.houses; house++) {
            int alike = housesAlike(house);
            if (Integer.bitCount(alike) > Integer.bitCount(stay)) {
                stay = alike;
            }
        }
        return what == 0 ? calendar.houses - Integer.bitCount(stay) : stay;
    }

    public int work(int d, int laws) throws IllegalArgumentException {
        need(d >= 1 && d <= LONGEST_WORK);
        needLaws(laws);
        return state.addWork(d, laws);
    }

    public int done(int work, int day) throws IndexOutOfBoundsException, NoSuchElementException {
        needDay(day);
        needWork(work);
        return works.endOf(work, day);
    }

    public int begun(int work, int day) throws IndexOutOfBoundsException, NoSuchElementException {
        needDay(day);
        needWork(work);
        return works.bestBegin(work, day, Math.min(day + calendar.wholeTurn - 1, LAST_DAY));
    }

    public int soonest(int day, int what) throws IndexOutOfBoundsException, IllegalArgumentException {
        needDay(day);
        needEither(what);
        works.plan(day);
        return what == 0 ? works.earliestEnd() : works.firstOrder(day);
    }

    public int rest() {
        int gone = state.works;
        state.works = 0;
        return gone;
    }

    public int thief(int a, int b) throws NoSuchElementException, IllegalArgumentException {
        needTwoLaws(a, b);
        return calendar.own.daysWithout(a, b, calendar.wholeTurn);
    }

    public int guard(int a, int b) throws NoSuchElementException, IllegalArgumentException {
        needTwoLaws(a, b);
        for (int week = LONGEST_WEEK; week >= SHORTEST_WEEK; week--) {
            int day = calendar.own.watchDay(a, b, week);
            if (day != NONE) {
                return 100 * week + day;
            }
        }
        return NONE;
    }

    public int trade(int laws, int others) throws IllegalArgumentException {
        needLaws(laws);
        needOthers(others);
        freeDays.bar(laws, others);
        int days = 0;
        for (int from = 0; from < calendar.bothTurn; from += BLOCK) {
            days += Long.bitCount(freeDays.daysFrom(from) & low(calendar.bothTurn - from));
        }
        return days;
    }

    public int market(int day, int laws, int others) throws IndexOutOfBoundsException, IllegalArgumentException {
        needDay(day);
        needLaws(laws);
        needOthers(others);
        freeDays.bar(laws, others);
        return freeDays.nthFrom(day, 1);
    }

    public int image() {
        if (imageCount >= images.length) {
            return -1;
        }
        images[imageCount].copy(state);
        imageCount++;
        return imageCount;
    }

    public int restore() {
        if (imageCount < 1 || imageCount > images.length) {
            return -1;
        }
        imageCount--;
        state.copy(images[imageCount]);
        return imageCount;
    }

    public int status(int what) {
        switch (what) {
            case 0: return noDays;
            case 1: return noElements;
            case 2: return noArguments;
            default: return NONE;
        }
    }

    public int sums(int what) {
        switch (what) {
            case 0: return state.sights;
            case 1: return state.deeds;
            case 2: return state.works;
            case 3: return imageCount;
            case 4: return tape.size;
            default: return NONE;
        }
    }

    private void needDay(int day) {
        if (day < 0 || day > LAST_DAY) {
            noDays++;
            throw new IndexOutOfBoundsException("no such day");
        }
    }

    private void needElement(boolean there) {
        if (!there) {
            noElements++;
            throw new NoSuchElementException("no such law, house or work");
        }
    }

    private void need(boolean good) {
        if (!good) {
            noArguments++;
            throw new IllegalArgumentException("no such argument");
        }
    }

    private void needLaw(int law) {
        needElement(law >= 0 && law < calendar.own.size);
    }

    private void needHouse(int house) {
        needElement(house >= 0 && house < calendar.houses);
    }

    private void needWork(int work) {
        needElement(work >= 0 && work < state.works);
    }

    private void needTwoLaws(int a, int b) {
        needLaw(a);
        needLaw(b);
        need(a != b);
    }

    private void needEither(int what) {
        need(what == 0 || what == 1);
    }

    private void needLaws(int laws) {
        need((laws & ~all(calendar.own.size)) == 0);
    }

    private void needOthers(int others) {
        need((others & ~all(calendar.others.size)) == 0);
    }

    /** Keeps the fault's place, empties the tape, and tells the fault's number (0: none). */
    private int closeText() {
        faultPlace = tape.faultPlace;
        tape.size = 0;
        return tape.faultNumber;
    }

    private int lawsOfTown(int day) {
        int turns = calendar.turnsOn(day);
        int held = 0;
        for (int law = 0; law < calendar.own.size; law++) {
            held |= calendar.own.isHeld(law, turns) ? 1 << law : 0;
        }
        return held;
    }

    private int lawsOfHouse(int day, int house) {
        int turns = calendar.turnsOn(day);
        int held = 0;
        for (int law = 0; law < calendar.own.size; law++) {
            held |= calendar.own.isHeld(law, turns + state.aheadOf(house, law)) ? 1 << law : 0;
        }
        return held;
    }

    /** Whether all that a house did would be so if this law's wheel were s ahead in it. */
    private boolean explains(int house, int law, int s) {
        for (int i = 0; i < state.deeds; i++) {
            if (state.deedHouse[i] == house) {
                int of = state.deedLaw[i];
                int ahead = of == law ? s : state.aheadOf(house, of);
                if (calendar.own.isHeld(of, state.deedTurns[i] + ahead) != state.deedHeld[i]) {
                    return false;
                }
            }
        }
        return true;
    }

    private int housesAlike(int house) {
        int alike = 0;
        for (int h = 0; h < calendar.houses; h++) {
            alike |= state.areAlike(h, house) ? 1 << h : 0;
        }
        return alike;
    }

    private static boolean isWeek(long week) {
        return week >= SHORTEST_WEEK && week <= LONGEST_WEEK;
    }

    private static boolean isIn(int place, int set) {
        return (set >> place & 1) != 0;
    }

    /** The set of the first so many (0 to 30). */
    private static int all(int size) {
        return (1 << size) - 1;
    }

    /** What a number leaves by another, 0 or more even of a number below 0. */
    private static int left(int number, int by) {
        if (by < 1) {
            return 0;
        }
        int rest = number % by;
        return rest < 0 ? rest + by : rest;
    }

    private static int commonDivisor(int a, int b) {
        int greater = a;
        int lesser = b;
        for (int step = 0; step < 100 && lesser > 0; step++) {
            int rest = greater % lesser;
            greater = lesser;
            lesser = rest;
        }
        return greater;
    }

    /** The least number that both divide; one beyond the longest turn just stays beyond it, so that nothing overflows. */
    private static int commonTurn(int turn, int week) {
        int common = commonDivisor(turn, week);
        return turn > LONGEST_TURN || common < 1 ? turn : turn / common * week;
    }

    /** The lowest so many bits. */
    private static long low(int bits) {
        return bits >= BLOCK ? -1L : bits < 1 ? 0L : (1L << bits) - 1;
    }

    /** Where the lowest bit stands; 64 without bits. */
    private static int lowest(long bits) {
        return Long.bitCount((bits & -bits) - 1);
    }

    /** Where the n-th bit (from 1 on, from the lowest up) stands. */
    private static int nthLowest(long bits, int n) {
        long rest = bits;
        for (int i = 1; i < n; i++) {
            rest &= rest - 1;
        }
        return lowest(rest);
    }

    /** Every week-th bit from the lowest on. */
    private static long everyOf(int week) {
        long bits = 0;
        for (int i = 0; i < BLOCK; i += Math.max(week, 1)) {
            bits |= 1L << i;
        }
        return bits;
    }

    /** Of the 64 days from a number on those that leave a day by a week; beat holds every week-th bit. */
    private static long daysLeaving(int day, int week, long beat, int from) {
        int first = left(day - from, week);
        return first >= BLOCK ? 0L : beat << first;
    }

    /** Bytes that were fed, and the reading of one text from them. */
    private static final class Tape {
        private static final int ROOM = 500;
        private static final int TOO_GREAT = 1000000;

        private final int[] bytes = new int[ROOM];
        private int size;
        private int length;
        private int at;
        private int start;
        private int faultNumber;
        private int faultPlace;

        private void put(int four) {
            for (int shift = 24; shift >= 0 && size < ROOM; shift -= 8) {
                bytes[size] = four >> shift & 255;
                size++;
            }
        }

        private void open(int n) {
            length = Math.min(n, size);
            at = 0;
            start = 0;
            faultNumber = 0;
            faultPlace = NONE;
        }

        private boolean isFine() {
            return faultNumber == 0;
        }

        /** Only the first fault counts: the text is read from the left. */
        private void blame(int number, int place) {
            if (faultNumber == 0) {
                faultNumber = number;
                faultPlace = place;
            }
        }

        private void blameNext() {
            skipBlanks();
            blame(1, at);
        }

        /** Blames what was taken last. */
        private void blameTaken(int number) {
            blame(number, start);
        }

        private void skipBlanks() {
            while (at < length && bytes[at] == ' ') {
                at++;
            }
        }

        private boolean isAtEnd() {
            skipBlanks();
            return at >= length;
        }

        private boolean takesWord(String word) {
            skipBlanks();
            int end = at;
            while (end < length && bytes[end] >= 'a' && bytes[end] <= 'z') {
                end++;
            }
            if (!isFine() || end - at != word.length()) {
                return false;
            }
            for (int i = 0; i < word.length() && at + i < length; i++) {
                if (bytes[at + i] != word.charAt(i)) {
                    return false;
                }
            }
            start = at;
            at = end;
            return true;
        }

        private boolean takesSign(char sign) {
            skipBlanks();
            if (!isFine() || at >= length || bytes[at] != sign) {
                return false;
            }
            start = at;
            at++;
            return true;
        }

        /** A number within these; NONE, with a fault blamed, if there is none such. */
        private int takeNumber(int least, int greatest) {
            skipBlanks();
            start = at;
            int value = 0;
            while (at < length && bytes[at] >= '0' && bytes[at] <= '9') {
                value = Math.min(10 * value + bytes[at] - '0', TOO_GREAT);
                at++;
            }
            if (at == start) {
                blame(1, start);
            } else if (value < least || value > greatest) {
                blame(2, start);
            }
            return isFine() ? value : NONE;
        }
    }

    /** Laws of one town. */
    private static final class Laws {
        private final int[] week;
        private final int[] day;
        private final long[] beat;
        private final int[] meeting;
        private int size;
        private long ones;
        private long twos;
        private long fours;
        private long eights;

        private Laws(int room) {
            int places = Math.max(room, 1);
            week = new int[places];
            day = new int[places];
            beat = new long[places];
            meeting = new int[places];
        }

        private boolean isFull() {
            return size >= week.length;
        }

        private void add(int newWeek, int newDay) {
            if (!isFull()) {
                week[size] = newWeek;
                day[size] = newDay;
                beat[size] = everyOf(newWeek);
                size++;
            }
        }

        private void copy(Laws from) {
            size = 0;
            for (int i = 0; i < from.size; i++) {
                add(from.week[i], from.day[i]);
            }
            for (int i = 0; i < size; i++) {
                meeting[i] = lawsThatMeet(week[i], day[i]);
            }
        }

        private boolean isLaw(int law) {
            return law >= 0 && law < size;
        }

        private int weekOf(int law) {
            return isLaw(law) ? week[law] : 0;
        }

        private int dayOf(int law) {
            return isLaw(law) ? day[law] : 0;
        }

        private int meetingWith(int law) {
            return isLaw(law) ? meeting[law] : 0;
        }

        private boolean isHeld(int law, int turns) {
            return isLaw(law) && left(turns, week[law]) == day[law];
        }

        /** On which of the 64 days from some turns on a law holds. */
        private long heldFrom(int law, int turns) {
            return isLaw(law) ? daysLeaving(day[law], week[law], beat[law], turns) : 0L;
        }

        private long someHeldFrom(int laws, int turns) {
            long held = 0;
            for (int law = 0; law < size; law++) {
                if (isIn(law, laws)) {
                    held |= beat[law] << left(day[law] - turns, week[law]);
                }
            }
            return held;
        }

        /** Two weeks come together on a day just if their days leave the same by what divides both. */
        private int lawsThatMeet(int otherWeek, int otherDay) {
            int met = 0;
            for (int law = 0; law < size; law++) {
                int common = commonDivisor(week[law], otherWeek);
                met |= left(day[law] - otherDay, common) == 0 ? 1 << law : 0;
            }
            return met;
        }

        private boolean noneMeets(int laws, int otherWeek, int otherDay) {
            return (laws & lawsThatMeet(otherWeek, otherDay)) == 0;
        }

        /** The least number that a turn already told and the weeks of some laws divide. */
        private int turnWith(int laws, int turn) {
            int whole = turn;
            for (int law = 0; law < size; law++) {
                if (isIn(law, laws)) {
                    whole = commonTurn(whole, week[law]);
                }
            }
            return whole;
        }

        private int firstDayOfAll(int laws) {
            int first = 0;
            int turn = 1;
            for (int law = 0; law < size; law++) {
                if (isIn(law, laws)) {
                    for (int step = 0; step < week[law] && !isHeld(law, first); step++) {
                        first += turn;
                    }
                    if (!isHeld(law, first)) {
                        return NONE;
                    }
                    turn = commonTurn(turn, week[law]);
                }
            }
            return first;
        }

        /** Laws of which every two can be together can all be so: their days solve the same remainders. */
        private int greatestSet() {
            int greatest = 0;
            int many = 0;
            int whole = all(size);
            for (int set = 0; set <= whole; set++) {
                if (Integer.bitCount(set) > many && allMeet(set)) {
                    greatest = set;
                    many = Integer.bitCount(set);
                }
            }
            return greatest;
        }

        private boolean allMeet(int set) {
            for (int law = 0; law < size; law++) {
                if (isIn(law, set) && (set & ~meeting[law]) != 0) {
                    return false;
                }
            }
            return true;
        }

        /** Counts for 64 days at once how many laws hold: each day's number stands across four rows of bits. */
        private void tally(int turns) {
            ones = 0;
            twos = 0;
            fours = 0;
            eights = 0;
            for (int law = 0; law < size; law++) {
                long held = heldFrom(law, turns);
                long toTwos = ones & held;
                long toFours = twos & toTwos;
                long toEights = fours & toFours;
                ones ^= held;
                twos ^= toTwos;
                fours ^= toFours;
                eights ^= toEights;
            }
        }

        private long justSoMany(int many) {
            long days = (many & 1) != 0 ? ones : ~ones;
            days &= (many & 2) != 0 ? twos : ~twos;
            days &= (many & 4) != 0 ? fours : ~fours;
            return days & ((many & 8) != 0 ? eights : ~eights);
        }

        /** Of so many days, a turn of both laws, those on which law a holds and b does not. */
        private int daysWithout(int a, int b, int turn) {
            int both = commonTurn(weekOf(a), weekOf(b));
            if (both < 1 || weekOf(a) < 1) {
                return 0;
            }
            return turn / weekOf(a) - (isIn(b, meetingWith(a)) ? turn / both : 0);
        }

        /** The day of a week on which all days fall on which law a holds and b does not; NONE without. */
        private int watchDay(int a, int b, int newWeek) {
            int turn = commonTurn(weekOf(a), weekOf(b));
            // such days come again with each turn of both, so the week must go into it
            int end = left(turn, newWeek) == 0 ? turn : 0;
            int found = NONE;
            for (int at = dayOf(a); at < end; at += Math.max(weekOf(a), 1)) {
                if (!isHeld(b, at)) {
                    int falls = left(at, newWeek);
                    if (found != NONE && found != falls) {
                        return NONE;
                    }
                    found = falls;
                }
            }
            return found;
        }
    }

    /** What a calendar's text tells. */
    private static final class Calendar {
        private static final int MOST_CLAUSES = 60;
        private static final int LAST_STILL = 99999;

        private final Laws own = new Laws(MOST_LAWS);
        private final Laws others = new Laws(MOST_OTHERS);
        private final int[] ahead = new int[MOST_HOUSES * MOST_LAWS];
        private final int[] still = new int[MOST_STILLS];
        private int houses;
        private int stills;
        private int wholeTurn = 1;
        private int bothTurn = 1;

        private void copy(Calendar from) {
            own.copy(from.own);
            others.copy(from.others);
            System.arraycopy(from.ahead, 0, ahead, 0, ahead.length);
            System.arraycopy(from.still, 0, still, 0, still.length);
            houses = from.houses;
            stills = from.stills;
            wholeTurn = from.wholeTurn;
            bothTurn = from.bothTurn;
        }

        /** How often the wheels were turned till a day. */
        private int turnsOn(int day) {
            int turns = day;
            for (int i = 0; i < stills; i++) {
                turns -= still[i] < day ? 1 : 0;
            }
            return turns;
        }

        /** The first day behind all stills. */
        private int settledDay() {
            int settled = 0;
            for (int i = 0; i < stills; i++) {
                settled = Math.max(settled, still[i] + 1);
            }
            return settled;
        }

        /** How many days from one on, 64 at most, have no still between them. */
        private int stretchFrom(int day) {
            int last = Math.min(day + BLOCK - 1, LAST_DAY);
            for (int i = 0; i < stills; i++) {
                last = still[i] >= day ? Math.min(last, still[i]) : last;
            }
            return last - day + 1;
        }

        /** How many days up to one, 64 at most, have no still between them. */
        private int stretchTo(int day) {
            int first = Math.max(day - BLOCK + 1, 0);
            for (int i = 0; i < stills; i++) {
                first = still[i] < day ? Math.max(first, still[i] + 1) : first;
            }
            return day - first + 1;
        }

        private void read(Tape text) {
            own.size = 0;
            others.size = 0;
            houses = 0;
            stills = 0;
            for (int i = 0; i < ahead.length; i++) {
                ahead[i] = 0;
            }
            for (int clause = 0; clause <= MOST_CLAUSES && text.isFine() && !text.isAtEnd(); clause++) {
                readClause(text, clause < MOST_CLAUSES);
            }
            wholeTurn = own.turnWith(all(own.size), 1);
            bothTurn = others.turnWith(all(others.size), wholeTurn);
            if (bothTurn > LONGEST_TURN) {
                text.blame(4, text.length);
            }
        }

        private void readClause(Tape text, boolean more) {
            if (text.takesWord("law")) {
                readLaw(text, own, more);
            } else if (text.takesWord("other")) {
                readLaw(text, others, more);
            } else if (text.takesWord("house")) {
                readHouse(text, more);
            } else if (text.takesWord("slip")) {
                readSlip(text, more);
            } else if (text.takesWord("still")) {
                readStill(text, more);
            } else {
                text.blameNext();
            }
            if (text.isFine() && !text.takesSign(';')) {
                text.blameNext();
            }
        }

        private void readLaw(Tape text, Laws laws, boolean more) {
            if (!more || laws.isFull()) {
                text.blameTaken(3);
                return;
            }
            int week = text.takeNumber(SHORTEST_WEEK, LONGEST_WEEK);
            if (week != NONE) {
                int day = text.takeNumber(0, week - 1);
                if (day != NONE) {
                    laws.add(week, day);
                }
            }
        }

        private void readHouse(Tape text, boolean more) {
            if (!more || houses >= MOST_HOUSES) {
                text.blameTaken(3);
                return;
            }
            houses++;
        }

        private void readSlip(Tape text, boolean more) {
            if (!more) {
                text.blameTaken(3);
                return;
            }
            int house = text.takeNumber(0, houses - 1);
            int law = house == NONE ? NONE : text.takeNumber(0, own.size - 1);
            int s = law == NONE ? NONE : text.takeNumber(0, own.weekOf(law) - 1);
            if (s != NONE) {
                ahead[house * MOST_LAWS + law] = s;
            }
        }

        private void readStill(Tape text, boolean more) {
            if (!more || stills >= MOST_STILLS) {
                text.blameTaken(3);
                return;
            }
            int day = text.takeNumber(0, LAST_STILL);
            boolean known = day == NONE;
            for (int i = 0; i < stills; i++) {
                known |= still[i] == day;
            }
            if (!known) {
                still[stills] = day;
                stills++;
            }
        }
    }

    /** What an image keeps: wheels, what was seen and done, works. */
    private static final class State {
        private final int[] ahead = new int[MOST_HOUSES * MOST_LAWS];
        private final int[] sightLaw = new int[MOST_SIGHTS];
        private final int[] sightAgo = new int[MOST_SIGHTS];
        private final boolean[] sightHeld = new boolean[MOST_SIGHTS];
        private int sights;
        private final int[] deedHouse = new int[MOST_DEEDS];
        private final int[] deedLaw = new int[MOST_DEEDS];
        private final int[] deedTurns = new int[MOST_DEEDS];
        private final boolean[] deedHeld = new boolean[MOST_DEEDS];
        private int deeds;
        private final int[] workDays = new int[MOST_WORKS];
        private final int[] workLaws = new int[MOST_WORKS];
        private int works;

        private void begin(Calendar calendar) {
            System.arraycopy(calendar.ahead, 0, ahead, 0, ahead.length);
            sights = 0;
            deeds = 0;
            works = 0;
        }

        private void copy(State from) {
            System.arraycopy(from.ahead, 0, ahead, 0, ahead.length);
            sights = from.sights;
            for (int i = 0; i < sights; i++) {
                sightLaw[i] = from.sightLaw[i];
                sightAgo[i] = from.sightAgo[i];
                sightHeld[i] = from.sightHeld[i];
            }
            deeds = from.deeds;
            for (int i = 0; i < deeds; i++) {
                deedHouse[i] = from.deedHouse[i];
                deedLaw[i] = from.deedLaw[i];
                deedTurns[i] = from.deedTurns[i];
                deedHeld[i] = from.deedHeld[i];
            }
            works = from.works;
            for (int i = 0; i < works; i++) {
                workDays[i] = from.workDays[i];
                workLaws[i] = from.workLaws[i];
            }
        }

        private boolean isWheel(int house, int law) {
            return house >= 0 && house < MOST_HOUSES && law >= 0 && law < MOST_LAWS;
        }

        private int aheadOf(int house, int law) {
            return isWheel(house, law) ? ahead[house * MOST_LAWS + law] : 0;
        }

        private void setAhead(int house, int law, int s) {
            if (isWheel(house, law)) {
                ahead[house * MOST_LAWS + law] = s;
            }
        }

        /** Wheels of laws that were not told stand at 0 in every house, so all may be compared. */
        private boolean areAlike(int one, int other) {
            for (int law = 0; law < MOST_LAWS; law++) {
                if (aheadOf(one, law) != aheadOf(other, law)) {
                    return false;
                }
            }
            return true;
        }

        private int addSight(int law, int ago, boolean held) {
            if (sights >= MOST_SIGHTS) {
                return -1;
            }
            sightLaw[sights] = law;
            sightAgo[sights] = ago;
            sightHeld[sights] = held;
            sights++;
            return sights;
        }

        private int addDeed(int house, int law, int turns, boolean held) {
            if (deeds >= MOST_DEEDS) {
                return -1;
            }
            deedHouse[deeds] = house;
            deedLaw[deeds] = law;
            deedTurns[deeds] = turns;
            deedHeld[deeds] = held;
            deeds++;
            return deeds;
        }

        private int addWork(int days, int laws) {
            if (works >= MOST_WORKS) {
                return -1;
            }
            workDays[works] = days;
            workLaws[works] = laws;
            works++;
            return works - 1;
        }
    }

    /** Days on which none of some laws of both towns holds, looked at 64 at a time. */
    private static final class FreeDays {
        private final Calendar calendar;
        private final int[] meetings = new int[LONGEST_WEEK];
        private int laws;
        private int otherLaws;
        private int turn = 1;
        private int walkDay;
        private int walkEnd;
        private long walkDays;

        private FreeDays(Calendar calendar) {
            this.calendar = calendar;
        }

        private void bar(int newLaws, int newOthers) {
            laws = newLaws;
            otherLaws = newOthers;
            turn = calendar.others.turnWith(newOthers, calendar.own.turnWith(newLaws, 1));
        }

        /** Which of the 64 days from some turns on are free: bit i tells of the i-th behind the first. */
        private long daysFrom(int turns) {
            return ~(calendar.own.someHeldFrom(laws, turns) | calendar.others.someHeldFrom(otherLaws, turns));
        }

        /** In so many days the wheels come to every place, even with all stills among them. */
        private int patience() {
            return turn + MOST_STILLS;
        }

        /** The n-th free day from one on; NONE if there is none up to the last. */
        private int nthFrom(int from, int n) {
            int missing = n;
            int patience = patience();
            int length = 1;
            for (int day = from; day <= LAST_DAY && patience > 0; day += Math.max(length, 1)) {
                length = calendar.stretchFrom(day);
                long days = daysFrom(calendar.turnsOn(day)) & low(length);
                int there = Long.bitCount(days);
                if (there >= missing) {
                    return day + nthLowest(days, missing);
                }
                missing -= there;
                patience = there > 0 ? patience() : patience - length;
            }
            return NONE;
        }

        /** Free days from one on are then told one by one by walkOn. */
        private void walkFrom(int day) {
            walkDay = day;
            walkEnd = day;
            walkDays = 0;
        }

        /** The next free day; NONE if there is none up to the last. */
        private int walkOn() {
            int length = 1;
            int patience = patience();
            for (; walkDays == 0 && walkEnd <= LAST_DAY && patience > 0; patience -= Math.max(length, 1)) {
                length = calendar.stretchFrom(walkEnd);
                walkDay = walkEnd;
                walkDays = daysFrom(calendar.turnsOn(walkDay)) & low(length);
                walkEnd = walkDay + length;
            }
            if (walkDays == 0) {
                return NONE;
            }
            int found = walkDay + lowest(walkDays);
            walkDays &= walkDays - 1;
            return found;
        }

        /** The n-th free day back from one, but none ahead of a bound; NONE without. */
        private int nthBack(int to, int n, int bound) {
            int missing = n;
            int length = 1;
            for (int day = to; day >= bound; day -= Math.max(length, 1)) {
                length = calendar.stretchTo(day);
                int first = day - length + 1;
                long days = daysFrom(calendar.turnsOn(first)) & low(length);
                int there = Long.bitCount(days);
                if (there >= missing) {
                    int found = first + nthLowest(days, there - missing + 1);
                    return found >= bound ? found : NONE;
                }
                missing -= there;
            }
            return NONE;
        }

        /** The first day from one on with which so many free days begin; NONE without. */
        private int firstRow(int from, int many) {
            int end = Math.min(Math.max(from, calendar.settledDay()) + turn + many, LAST_DAY);
            int row = 0;
            int length = 1;
            for (int day = from; day <= end; day += Math.max(length, 1)) {
                length = calendar.stretchFrom(day);
                long days = daysFrom(calendar.turnsOn(day)) & low(length);
                int before = row;
                int at = 0;
                for (int part = 0; part < BLOCK && at < length; part++) {
                    int free = lowest(~(days >>> at));
                    if (before + free >= many) {
                        return day + at - before;
                    }
                    // a row that reaches the stretch's end goes on in the next one
                    row = before + free;
                    at += free;
                    if (at < length) {
                        at += Math.max(lowest(days >>> at), 1);
                        row = 0;
                    }
                    before = 0;
                }
            }
            return NONE;
        }

        /** The first new law that meets barred days most often: 100 times its week, and its day. */
        private int mostBarredLaw() {
            int best = 100 * SHORTEST_WEEK;
            long bestPart = 0;
            long bestWeek = SHORTEST_WEEK;
            // a law meets on no greater part of the days than one of its week, so longer weeks soon can't be better
            for (int week = SHORTEST_WEEK; week <= LONGEST_WEEK && bestPart * week < turn * bestWeek; week++) {
                int common = commonDivisor(turn, week);
                countMeetings(common);
                for (int day = 0; day < common && day < meetings.length; day++) {
                    long part = (long) common * meetings[day];
                    if (part * bestWeek > bestPart * week) {
                        best = 100 * week + day;
                        bestPart = part;
                        bestWeek = week;
                    }
                }
            }
            return best;
        }

        /** Of a turn, for each day of a week that divides it, on how many days it falls on a barred one. */
        private void countMeetings(int week) {
            long beat = everyOf(week);
            for (int day = 0; day < meetings.length; day++) {
                meetings[day] = 0;
            }
            for (int from = 0; from < turn; from += BLOCK) {
                long barred = ~daysFrom(from) & low(turn - from);
                for (int day = 0; day < week && day < meetings.length; day++) {
                    meetings[day] += Long.bitCount(barred & daysLeaving(day, week, beat, from));
                }
            }
        }
    }

    /** Days on which a wish holds: its parts stand in the order in which they are worked out. */
    private static final class Wish {
        private static final int LAW = 0;
        private static final int MANY = 1;
        private static final int DAY = 2;
        private static final int HOUSE = 3;
        private static final int TOWN = 4;
        private static final int NOT = 5;
        private static final int AND = 6;
        private static final int OR = 7;
        private static final int ROOM = 100;

        private final Calendar calendar;
        private final State state;
        private final int[] sort = new int[ROOM];
        private final int[] first = new int[ROOM];
        private final int[] second = new int[ROOM];
        private final long[] beat = new long[ROOM];
        private final long[] stack = new long[ROOM];
        private int size;
        private boolean counts;
        private int turn = 1;

        private Wish(Calendar calendar, State state) {
            this.calendar = calendar;
            this.state = state;
        }

        private void clear() {
            size = 0;
            counts = false;
            turn = calendar.bothTurn;
        }

        private void copy(Wish from) {
            size = from.size;
            counts = from.counts;
            turn = from.turn;
            System.arraycopy(from.sort, 0, sort, 0, size);
            System.arraycopy(from.first, 0, first, 0, size);
            System.arraycopy(from.second, 0, second, 0, size);
            System.arraycopy(from.beat, 0, beat, 0, size);
        }

        private void add(int newSort, int newFirst, int newSecond) {
            if (size >= ROOM) {
                return;
            }
            sort[size] = newSort;
            first[size] = newFirst;
            second[size] = newSecond;
            size++;
        }

        /** What need be known of all parts before days are looked at. */
        private void prepare() {
            for (int i = 0; i < size; i++) {
                if (sort[i] == DAY) {
                    beat[i] = everyOf(first[i]);
                    turn = commonTurn(turn, first[i]);
                }
                counts |= sort[i] == MANY;
            }
        }

        /** Of the 64 days from one on, as if no wheel stood still between them, those on which the wish holds. */
        private long daysFrom(int day, int turns) {
            if (counts) {
                calendar.own.tally(turns);
            }
            int top = 0;
            for (int i = 0; i < size; i++) {
                if (sort[i] < NOT && top < ROOM) {
                    stack[top] = daysOf(i, day, turns);
                    top++;
                } else if (sort[i] == NOT && top > 0) {
                    stack[top - 1] = ~stack[top - 1];
                } else if (top > 1) {
                    top--;
                    stack[top - 1] = sort[i] == AND ? stack[top - 1] & stack[top] : stack[top - 1] | stack[top];
                }
            }
            return top > 0 ? stack[0] : -1L;
        }

        private long daysOf(int part, int day, int turns) {
            int one = first[part];
            switch (sort[part]) {
                case LAW: return calendar.own.heldFrom(one, turns);
                case MANY: return calendar.own.justSoMany(one);
                case DAY: return daysLeaving(second[part], one, beat[part], day);
                case HOUSE: return calendar.own.heldFrom(second[part], turns + state.aheadOf(one, second[part]));
                default: return calendar.others.heldFrom(one, turns);
            }
        }

        /** A day's number goes on behind a still, wheels do not: only behind the last all goes in turns. */
        private int firstFrom(int from) {
            int end = Math.min(Math.max(from, calendar.settledDay()) + turn, LAST_DAY);
            int length = 1;
            for (int day = from; day <= end; day += Math.max(length, 1)) {
                length = calendar.stretchFrom(day);
                long days = daysFrom(day, calendar.turnsOn(day)) & low(length);
                if (days != 0) {
                    return day + lowest(days);
                }
            }
            return NONE;
        }
    }

    /** Reads a wish's text, part by part, each behind those that it joins. */
    private static final class WishReader {
        private static final int MOST_OPEN = 6;
        private static final int LEAST_DIVISOR = 2;
        private static final int GREATEST_DIVISOR = 99;

        private final Tape text;
        private final Calendar calendar;

        private WishReader(Tape text, Calendar calendar) {
            this.text = text;
            this.calendar = calendar;
        }

        private void read(Wish wish) {
            wish.clear();
            readChoice(wish, 0);
            if (!text.isAtEnd()) {
                text.blameNext();
            }
            wish.prepare();
            if (wish.turn > LONGEST_TURN) {
                text.blame(4, text.length);
            }
        }

        private void readChoice(Wish wish, int open) {
            readJoined(wish, open);
            for (int more = 0; more < LONGEST_WISH && text.takesWord("or"); more++) {
                readJoined(wish, open);
                wish.add(Wish.OR, 0, 0);
            }
        }

        private void readJoined(Wish wish, int open) {
            readSingle(wish, open);
            for (int more = 0; more < LONGEST_WISH && text.takesWord("and"); more++) {
                readSingle(wish, open);
                wish.add(Wish.AND, 0, 0);
            }
        }

        private void readSingle(Wish wish, int open) {
            if (text.takesWord("not")) {
                if (mayOpen(open)) {
                    readSingle(wish, open + 1);
                    wish.add(Wish.NOT, 0, 0);
                }
            } else if (text.takesSign('[')) {
                if (mayOpen(open)) {
                    readChoice(wish, open + 1);
                    if (!text.takesSign(']')) {
                        text.blameNext();
                    }
                }
            } else {
                readPlain(wish);
            }
        }

        private boolean mayOpen(int open) {
            if (open >= MOST_OPEN) {
                text.blameTaken(3);
            }
            return open < MOST_OPEN;
        }

        private void readPlain(Wish wish) {
            if (text.takesWord("law")) {
                wish.add(Wish.LAW, text.takeNumber(0, calendar.own.size - 1), 0);
            } else if (text.takesWord("many")) {
                wish.add(Wish.MANY, text.takeNumber(0, MOST_LAWS), 0);
            } else if (text.takesWord("town")) {
                wish.add(Wish.TOWN, text.takeNumber(0, calendar.others.size - 1), 0);
            } else if (text.takesWord("day")) {
                int divisor = text.takeNumber(LEAST_DIVISOR, GREATEST_DIVISOR);
                if (divisor != NONE) {
                    wish.add(Wish.DAY, divisor, text.takeNumber(0, divisor - 1));
                }
            } else if (text.takesWord("house")) {
                int house = text.takeNumber(0, calendar.houses - 1);
                if (house != NONE) {
                    wish.add(Wish.HOUSE, house, text.takeNumber(0, calendar.own.size - 1));
                }
            } else {
                text.blameNext();
            }
        }
    }

    /** When works are done, best begun, and in which order they are done soonest. */
    private static final class Works {
        private static final int SETS = 1 << MOST_WORKS;

        private final FreeDays free;
        private final State state;
        private final int[] begins = new int[SETS];
        private final int[] latest = new int[SETS];
        private final int[] ring = new int[LONGEST_WORK];

        private Works(FreeDays free, State state) {
            this.free = free;
            this.state = state;
        }

        private boolean isWork(int work) {
            return work >= 0 && work < state.works && work < MOST_WORKS;
        }

        private int endOf(int work, int day) {
            if (!isWork(work)) {
                return NONE;
            }
            free.bar(state.workLaws[work], 0);
            return free.nthFrom(day, state.workDays[work]);
        }

        /** The latest day, no earlier than a bound, to begin a work that is to be done on a day; NONE without. */
        private int latestBegin(int work, int end, int bound) {
            if (!isWork(work)) {
                return NONE;
            }
            free.bar(state.workLaws[work], 0);
            return free.nthBack(end, state.workDays[work], bound);
        }

        /**
         * From a day that is barred fewest days are never needed, unless it is the last that may be chosen: so free
         * days are gone through, a ring of the latest d of them telling where a work done on one has begun.
         */
        private int bestBegin(int work, int from, int lastBegin) {
            if (!isWork(work)) {
                return NONE;
            }
            int days = state.workDays[work];
            free.bar(state.workLaws[work], 0);
            free.walkFrom(from);
            int best = NONE;
            int fewest = LAST_DAY + 2;
            for (int found = 0; found <= LONGEST_TURN + LONGEST_WORK; found++) {
                int day = free.walkOn();
                if (day == NONE || days < 1 || days > ring.length) {
                    return best;
                }
                ring[found % days] = day;
                if (found >= days - 1) {
                    int oldest = ring[(found + 1) % days];
                    int begin = Math.min(oldest, lastBegin);
                    if (day - begin + 1 < fewest) {
                        best = begin;
                        fewest = day - begin + 1;
                    }
                    if (oldest > lastBegin || fewest == days) {
                        return best;
                    }
                }
            }
            return best;
        }

        /** Of each set of works the day behind the soonest one on which all are done; NONE if they never are. */
        private void plan(int day) {
            begins[0] = day;
            for (int set = 1; set <= all(state.works) && set < SETS; set++) {
                begins[set] = earliestBehind(set);
            }
        }

        /** As planned, the day on which all works are done; the day ahead without works. */
        private int earliestEnd() {
            int behind = begins[all(state.works) & SETS - 1];
            return behind == NONE ? NONE : behind - 1;
        }

        /** A work begun earlier is done no later, so of each set the soonest end alone counts. */
        private int earliestBehind(int set) {
            int best = NONE;
            for (int work = 0; work < state.works; work++) {
                int ahead = begins[set & ~(1 << work) & SETS - 1];
                if (isIn(work, set) && ahead != NONE) {
                    int end = endOf(work, ahead);
                    best = end != NONE && (best == NONE || end + 1 < best) ? end + 1 : best;
                }
            }
            return best;
        }

        /** As planned, the first order by which all are done soonest, as digits; NONE if they never are. */
        private int firstOrder(int from) {
            int rest = all(state.works);
            latest[0] = begins[rest & SETS - 1];
            if (latest[0] == NONE) {
                return NONE;
            }
            for (int set = 1; set <= rest && set < SETS; set++) {
                latest[set] = latestAheadOf(set, from);
            }
            int order = 0;
            int day = from;
            for (int place = 0; place < state.works; place++) {
                int work = firstInTime(rest, day);
                order = 10 * order + work;
                day = endOf(work, day) + 1;
                rest &= ~(1 << work);
            }
            return order;
        }

        /** The latest day on which a set of works may begin, so that all are done by the goal. */
        private int latestAheadOf(int set, int bound) {
            int best = NONE;
            for (int work = 0; work < state.works; work++) {
                int behind = latest[set & ~(1 << work) & SETS - 1];
                if (isIn(work, set) && behind != NONE) {
                    best = Math.max(best, latestBegin(work, behind - 1, bound));
                }
            }
            return best;
        }

        private int firstInTime(int rest, int day) {
            for (int work = 0; work < state.works; work++) {
                int bound = latest[rest & ~(1 << work) & SETS - 1];
                if (isIn(work, rest) && bound != NONE) {
                    int end = endOf(work, day);
                    if (end != NONE && end < bound) {
                        return work;
                    }
                }
            }
            return 0;
        }
    }

    /** What day it may be by what was seen. */
    private static final class Today {
        private final Calendar calendar;
        private final State state;
        private final int[] held = new int[MOST_LAWS];
        private int fitting;
        private int first;
        private int last;

        private Today(Calendar calendar, State state) {
            this.calendar = calendar;
            this.state = state;
        }

        private void survey() {
            fitting = 0;
            first = NONE;
            last = NONE;
            for (int law = 0; law < held.length; law++) {
                held[law] = 0;
            }
            for (int from = 0; from < calendar.wholeTurn; from += BLOCK) {
                long days = fittingFrom(from) & low(calendar.wholeTurn - from);
                if (days != 0) {
                    note(from, days);
                }
            }
        }

        private long fittingFrom(int from) {
            long days = -1L;
            for (int i = 0; i < state.sights; i++) {
                long seen = calendar.own.heldFrom(state.sightLaw[i], from - state.sightAgo[i]);
                days &= state.sightHeld[i] ? seen : ~seen;
            }
            return days;
        }

        private void note(int from, long days) {
            int there = Long.bitCount(days);
            fitting += there;
            first = first == NONE ? from + lowest(days) : first;
            last = from + nthLowest(days, there);
            for (int law = 0; law < calendar.own.size && law < held.length; law++) {
                held[law] += Long.bitCount(days & calendar.own.heldFrom(law, from));
            }
        }

        /** Without a law to look on all are left. */
        private int leftAtWorst(int law) {
            return law < 0 || law >= held.length ? fitting : Math.max(held[law], fitting - held[law]);
        }

        private int tellingLaw() {
            int best = NONE;
            for (int law = 0; law < calendar.own.size; law++) {
                if (best == NONE || leftAtWorst(law) < leftAtWorst(best)) {
                    best = law;
                }
            }
            return best;
        }
    }

    /** Sets days for weeks so that never more than some of them meet. */
    private static final class WeekSetter {
        private static final int MOST_WEEKS = 6;
        private static final int FEWEST_WEEKS = 2;

        private final int[] week = new int[MOST_WEEKS];
        private final int[] day = new int[MOST_WEEKS];
        private final int[] meeting = new int[MOST_WEEKS];
        private int size;

        /** Takes weeks told as digits to the base 100; false if there are no such weeks. */
        private boolean take(long told) {
            size = 0;
            long power = 1;
            for (int i = 0; i < MOST_WEEKS && told / power > 0; i++) {
                power *= 100;
                size++;
            }
            if (told / power != 0 || size < FEWEST_WEEKS) {
                return false;
            }
            for (int i = 0; i < size; i++) {
                power = Math.max(power / 100, 1);
                long digit = told / power % 100;
                if (!isWeek(digit)) {
                    return false;
                }
                week[i] = (int) digit;
            }
            return true;
        }

        private long firstDays(int n) {
            if (!isSet(0, n, 1)) {
                return NONE;
            }
            long days = 0;
            for (int i = 0; i < size; i++) {
                days = 100 * days + day[i];
            }
            return days;
        }

        /**
         * Days ahead stay as they are if all wheels go on by a whole turn of their weeks, so a day need only be tried
         * up to what that turn and its own week have in common; and of like weeks the later one's day is no less.
         */
        private boolean isSet(int place, int n, int turn) {
            if (place >= size || place >= MOST_WEEKS) {
                return true;
            }
            int common = commonDivisor(turn, week[place]);
            int whole = common < 1 ? turn : turn / common * week[place];
            for (int d = leastDay(place); d < common; d++) {
                day[place] = d;
                if (!meetsTooMany(place, n) && isSet(place + 1, n, whole)) {
                    return true;
                }
            }
            return false;
        }

        private int leastDay(int place) {
            int least = 0;
            for (int i = 0; i < place; i++) {
                least = week[i] == week[place] ? day[i] : least;
            }
            return least;
        }

        /** Whether a week meets n of those ahead of it all at once. */
        private boolean meetsTooMany(int place, int n) {
            int met = 0;
            for (int i = 0; i < place; i++) {
                int common = commonDivisor(week[i], week[place]);
                met |= left(day[i] - day[place], common) == 0 ? 1 << i : 0;
            }
            meeting[place] = met;
            for (int set = 0; set <= met; set++) {
                if ((set & ~met) == 0 && Integer.bitCount(set) == n && allMeet(set)) {
                    return true;
                }
            }
            return false;
        }

        private boolean allMeet(int set) {
            for (int i = 0; i < MOST_WEEKS; i++) {
                if (isIn(i, set) && (set & all(i) & ~meeting[i]) != 0) {
                    return false;
                }
            }
            return true;
        }
    }
}
