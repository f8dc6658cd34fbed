import java.util.Arrays;
import java.util.NoSuchElementException;

/** A house that promises nights ahead, plans who sleeps where, and prices what is wished. */
public final class GuestHouse {
    public static final int NONE = -1;

    private static final int PLACES = 16;
    private static final int FLOORS = 10;
    private static final int NIGHTS = 60;
    private static final int MOST_PROMISES = 40;
    private static final int MOST_RULES = 8;
    private static final int MOST_OVER = 40;
    private static final int MOST_AMOUNT = 1000000;

    private static final int SINGLE = 0;
    private static final int DOUBLE = 1;
    private static final int GROUND = 2;
    private static final int DORM = 3;
    private static final int KINDS = 4;
    private static final int STORE = 4;

    private static final int WANT_BED = 0;
    private static final int WANT_SINGLE = 1;
    private static final int WANT_DOUBLE = 2;
    private static final int WANT_GROUND = 3;
    private static final int WANT_SUITE = 4;
    private static final int WANTS = 5;

    private static final int HELD = 0;
    private static final int FIRM = 1;
    private static final int COME = 2;
    private static final int GONE = 3;
    private static final int CANCELLED = 4;
    private static final int FALLEN = 5;
    private static final int MISSED = 6;
    private static final int WALKED = 7;

    private static final int RULE_LENGTH = 0;
    private static final int RULE_AHEAD = 1;
    private static final int RULE_NEXT_NIGHT = 2;

    private static final int NOT_AS_TOLD = 1;
    private static final int NOT_ALLOWED = 2;
    private static final int OVER_PASSED = 3;
    private static final int BOOK_FULL = 4;
    private static final int TILL_TOO_EARLY = 5;
    private static final int NOT_OPEN_TO_CHANGE = 6;

    private final House house;
    private final Book book;
    private final Vacancy vacancy;
    private final Plan plan;
    private final Tariff tariff;
    private int day;
    private int overLimit;
    /** Nights from day up to, but without, this one have a plan that still holds. */
    private int planned;

    public GuestHouse() {
        house = new House();
        book = new Book();
        vacancy = new Vacancy(house);
        plan = new Plan(house, book, vacancy);
        tariff = new Tariff();
    }

    public boolean room(int p, int kind, int floor, int beds, int nights) {
        if (!house.isEmpty(p) || kind < 0 || kind >= KINDS || floor < 0 || floor >= FLOORS) {
            return false;
        }
        if (nights < 0 || nights > NIGHTS || kind == DORM && (beds < 2 || beds > 6)) {
            return false;
        }
        house.putRoom(p, new Room(kind, floor, beds, nights));
        replanFrom(0);
        return true;
    }

    public boolean store(int p) {
        if (!house.isEmpty(p)) {
            return false;
        }
        house.putStore(p);
        return true;
    }

    public boolean door(int p) {
        if (!house.join(p)) {
            return false;
        }
        replanFrom(0);
        return true;
    }

    public int shut(int p, int from, int to, boolean on) {
        Room room = house.roomAt(p);
        if (room == null || room.closed || !isSpan(from, to)) {
            return NONE;
        }
        replanFrom(from);
        return room.setShut(from, to, on);
    }

    public int open(int p, int more) {
        Room room = house.roomAt(p);
        if (room == null) {
            return NONE;
        }
        replanFrom(0);
        return room.lengthen(more);
    }

    public boolean close(int p) {
        Room room = house.roomAt(p);
        if (room == null || room.closed) {
            return false;
        }
        room.closeAltogether();
        replanFrom(0);
        return true;
    }

    public int look(int p, int what) {
        if (!isPlace(p)) {
            return -2;
        }
        Room room = house.roomAt(p);
        if (what == 0) {
            return house.kindAt(p);
        }
        if (room == null) {
            return NONE;
        }
        switch (what) {
            case 1:
                return room.floor;
            case 2:
                return room.beds;
            case 3:
                return room.neighbour;
            default:
                return NONE;
        }
    }

    public int night(int p, int n) {
        if (!isNight(n)) {
            return -4;
        }
        Room room = house.roomAt(p);
        return room == null ? -3 : room.stateIn(n);
    }

    public int can(int want, int people, int from, int to) {
        return refusalOf(want, people, from, to, NONE);
    }

    public int promise(int want, int people, int from, int to, int till) {
        int refusal = refusalOf(want, people, from, to, NONE);
        if (refusal == 0 && till != NONE && till < day) {
            refusal = TILL_TOO_EARLY;
        }
        if (refusal != 0) {
            return -1 - refusal;
        }
        Promise made = new Promise(want, people, till);
        made.setNights(from, to, tariff.leastCost(want, from, to, day));
        replanFrom(from);
        return book.enter(made);
    }

    public boolean firm(int q) {
        Promise promise = book.at(q);
        if (promise == null || promise.state != HELD) {
            return false;
        }
        setState(promise, FIRM);
        return true;
    }

    public boolean cancel(int q) {
        Promise promise = book.at(q);
        if (promise == null || !promise.isAhead()) {
            return false;
        }
        setState(promise, CANCELLED);
        return true;
    }

    public int change(int q, int from, int to) {
        Promise promise = book.at(q);
        if (promise == null || !promise.isAhead()) {
            return NOT_OPEN_TO_CHANGE;
        }
        int refusal = refusalOf(promise.want, promise.people, from, to, q);
        if (refusal != 0) {
            return refusal;
        }
        replanFrom(promise.from);
        replanFrom(from);
        promise.setNights(from, to, tariff.leastCost(promise.want, from, to, day));
        return 0;
    }

    public boolean come(int q) {
        Promise promise = book.at(q);
        if (promise == null || !promise.isAhead() || promise.from != day) {
            return false;
        }
        setState(promise, COME);
        return true;
    }

    public int next() {
        if (day >= NIGHTS - 1) {
            return NONE;
        }
        book.missNight(day);
        replanFrom(day);
        planUpTo(day);
        int walked = book.walkFrom(day);
        day++;
        book.turnTo(day);
        planned = day;
        return walked;
    }

    public long promised(int q, int what) throws NoSuchElementException {
        Promise promise = book.at(q);
        if (promise == null) {
            throw new NoSuchElementException("no such promise");
        }
        switch (what) {
            case 0:
                return promise.state;
            case 1:
                return promise.want;
            case 2:
                return promise.people;
            case 3:
                return promise.from;
            case 4:
                return promise.to;
            case 5:
                return promise.till;
            case 6:
                return promise.cost;
            case 7:
                return promise.nightsHad(day);
            case 8:
                return promise.movesIn(0, day);
            default:
                throw new NoSuchElementException("nothing such is told of a promise");
        }
    }

    public int spot(int q, int n) {
        Promise promise = book.at(q);
        if (promise == null || !isNight(n)) {
            return NONE;
        }
        planUpTo(n);
        return promise.spotIn(n);
    }

    public int moves() {
        planUpTo(NIGHTS - 1);
        int sum = 0;
        for (int q = 0; q < book.size; q++) {
            Promise promise = book.at(q);
            if (promise != null) {
                sum += promise.movesIn(day, NIGHTS);
            }
        }
        return sum;
    }

    public int floors(int a, int b, int n) {
        planUpTo(n);
        int seen = 0;
        for (int q = Math.max(a, 0); q <= b && q < book.size; q++) {
            Promise promise = book.at(q);
            Room room = promise == null ? null : house.roomAt(placeOf(promise.spotIn(n)));
            if (room != null) {
                seen |= 1 << room.floor;
            }
        }
        return Integer.bitCount(seen);
    }

    public int lacks(int n) {
        if (!isNight(n) || n < day) {
            return NONE;
        }
        return shortOf(n, NONE, NONE);
    }

    public int rooms(int kind, int n, int what) {
        if (kind < 0 || kind >= KINDS || !isNight(n)) {
            return NONE;
        }
        switch (what) {
            case 0:
                return house.openUnits(kind, n);
            case 1:
                planUpTo(n);
                return takenUnits(kind, n);
            default:
                return NONE;
        }
    }

    public boolean over(int k) {
        if (k < 0 || k > MOST_OVER) {
            return false;
        }
        overLimit = k;
        return true;
    }

    public boolean price(int want, int from, int to, int amount) {
        if (!isWant(want) || !isSpan(from, to) || amount < 0 || amount > MOST_AMOUNT) {
            return false;
        }
        tariff.setAmount(want, from, to, amount);
        return true;
    }

    public int rule(int sort, int n, int percentage) {
        return tariff.addRule(sort, n, percentage);
    }

    public boolean drop(int k) {
        return tariff.endRule(k);
    }

    public long cost(int want, int from, int to) {
        return isWish(want, from, to) ? tariff.costOf(want, from, to, day) : NONE;
    }

    public long least(int want, int from, int to, int what) {
        if (!isWish(want, from, to)) {
            return NONE;
        }
        switch (what) {
            case 0:
                return tariff.leastCost(want, from, to, day);
            case 1:
                return tariff.leastParts(want, from, to, day);
            default:
                return NONE;
        }
    }

    public int count(int what) {
        switch (what) {
            case 0:
                return day;
            case 1:
                return house.roomCount();
            case 2:
                return house.storeCount();
            case 3:
                return house.doorCount();
            case 4:
                return book.size;
            case 5:
                return book.standingCount();
            case 6:
                return overLimit;
            case 7:
                return tariff.heldRules();
            default:
                return NONE;
        }
    }

    private static boolean isPlace(int p) {
        return p >= 0 && p < PLACES;
    }

    private static boolean isNight(int n) {
        return n >= 0 && n < NIGHTS;
    }

    private static boolean isSpan(int from, int to) {
        return 0 <= from && from <= to && to <= NIGHTS;
    }

    private static boolean isWant(int want) {
        return want >= 0 && want < WANTS;
    }

    private static int mostPeople(int want) {
        switch (want) {
            case WANT_BED:
            case WANT_SINGLE:
                return 1;
            case WANT_DOUBLE:
            case WANT_GROUND:
                return 2;
            case WANT_SUITE:
                return 4;
            default:
                return 0;
        }
    }

    private static int spotCode(int place, int bed, boolean suite) {
        return 32 * place + 4 * bed + (suite ? 1 : 0);
    }

    /** NONE of no spot, since a negative number is shifted with its sign. */
    private static int placeOf(int code) {
        return code >> 5;
    }

    private static int bedOf(int code) {
        return code >> 2 & 7;
    }

    private static boolean isSuite(int code) {
        return code >= 0 && (code & 1) == 1;
    }

    private boolean isWish(int want, int from, int to) {
        return isWant(want) && from >= day && from < to && to <= NIGHTS;
    }

    /** Why a wish may not be promised (0: it may): a new one, or promise leftOut with other nights. */
    private int refusalOf(int want, int people, int from, int to, int leftOut) {
        if (!isWish(want, from, to) || people < 1 || people > mostPeople(want)) {
            return NOT_AS_TOLD;
        }
        if (tariff.leastCost(want, from, to, day) == NONE) {
            return NOT_ALLOWED;
        }
        for (int n = from; n < to; n++) {
            if (shortOf(n, want, leftOut) > overLimit) {
                return OVER_PASSED;
            }
        }
        return leftOut == NONE && book.isFull() ? BOOK_FULL : 0;
    }

    /** How many go short in night n, with one more who wants so (or NONE) and without promise leftOut (or NONE). */
    private int shortOf(int n, int moreWant, int leftOut) {
        vacancy.begin(n);
        for (int q = 0; q < book.size; q++) {
            Promise promise = book.at(q);
            if (promise != null && q != leftOut && promise.stands() && promise.covers(n)) {
                vacancy.addNeed(promise.want);
            }
        }
        vacancy.addNeed(moreWant);
        return vacancy.shortage();
    }

    private void setState(Promise promise, int state) {
        promise.state = state;
        replanFrom(promise.from);
    }

    /** A night's plan hangs on the night before it alone, so that nights ahead of a change stay as they are. */
    private void replanFrom(int n) {
        planned = Math.max(day, Math.min(planned, n));
    }

    private void planUpTo(int n) {
        for (int k = planned; k <= n && k < NIGHTS; k++) {
            plan.makeNight(k);
            planned = k + 1;
        }
    }

    private int takenUnits(int kind, int n) {
        int sum = 0;
        for (int q = 0; q < book.size; q++) {
            Promise promise = book.at(q);
            int code = promise == null ? NONE : promise.spotIn(n);
            sum += house.isOpenOfKind(placeOf(code), kind, n) ? 1 : 0;
            if (isSuite(code)) {
                sum += house.isOpenOfKind(placeOf(code) + 1, kind, n) ? 1 : 0;
            }
        }
        return sum;
    }

    /** A room with its calendar; nights are bits of a long, since there are but sixty. */
    private static final class Room {
        private final int kind;
        private final int floor;
        private final int beds;
        private int neighbour = NONE;
        private boolean closed;
        private int nights;
        /** Only nights that the calendar has are ever marked, so that nights opened later are not shut. */
        private long shutNights;

        Room(int kind, int floor, int dormBeds, int nights) {
            this.kind = kind;
            this.floor = floor;
            this.beds = kind == DORM ? dormBeds : kind == SINGLE ? 1 : 2;
            this.nights = nights;
        }

        /** How many who do not belong together can have it: a Dorm is had bed by bed, any other room whole. */
        int units() {
            return kind == DORM ? beds : 1;
        }

        int stateIn(int n) {
            if (closed) {
                return -2;
            }
            if (n < 0 || n >= nights) {
                return -1;
            }
            return (shutNights >> n & 1L) == 0L ? 1 : 0;
        }

        boolean isOpen(int n) {
            return stateIn(n) == 1;
        }

        int setShut(int from, int to, boolean on) {
            int end = Math.min(to, nights);
            if (from < 0 || from >= end) {
                return 0;
            }
            long span = (1L << end) - (1L << from);
            long turned = span & (on ? ~shutNights : shutNights);
            shutNights ^= turned;
            return Long.bitCount(turned);
        }

        int lengthen(int more) {
            if (more < 0 || more > NIGHTS - nights) {
                return NONE;
            }
            closed = false;
            nights += more;
            return nights;
        }

        /** The calendar is emptied, so that a later opening begins it anew. */
        void closeAltogether() {
            closed = true;
            nights = 0;
            shutNights = 0L;
        }

        boolean suits(int want) {
            switch (want) {
                case WANT_BED:
                    return kind == DORM;
                case WANT_SINGLE:
                    return kind != DORM;
                case WANT_DOUBLE:
                    return kind == DOUBLE || kind == GROUND;
                case WANT_GROUND:
                    return kind == GROUND;
                default:
                    return false;
            }
        }
    }

    /** The places with what stands in them. */
    private static final class House {
        private final Room[] roomRow = new Room[PLACES];
        private final boolean[] storeRow = new boolean[PLACES];

        Room roomAt(int p) {
            return p >= 0 && p < PLACES ? roomRow[p] : null;
        }

        boolean isEmpty(int p) {
            return isPlace(p) && roomRow[p] == null && !storeRow[p];
        }

        int kindAt(int p) {
            Room room = roomAt(p);
            if (room != null) {
                return room.kind;
            }
            return isPlace(p) && storeRow[p] ? STORE : NONE;
        }

        void putRoom(int p, Room room) {
            if (isPlace(p)) {
                roomRow[p] = room;
            }
        }

        void putStore(int p) {
            if (isPlace(p)) {
                storeRow[p] = true;
            }
        }

        boolean join(int p) {
            if (!isPlace(p) || !isPlace(p + 1)) {
                return false;
            }
            Room low = roomRow[p];
            Room high = roomRow[p + 1];
            if (low == null || high == null || low.kind != DOUBLE || high.kind != DOUBLE) {
                return false;
            }
            if (low.floor != high.floor || low.neighbour != NONE || high.neighbour != NONE) {
                return false;
            }
            low.neighbour = p + 1;
            high.neighbour = p;
            return true;
        }

        boolean isOpenOfKind(int p, int kind, int n) {
            Room room = roomAt(p);
            return room != null && room.kind == kind && room.isOpen(n);
        }

        int openUnits(int kind, int n) {
            int sum = 0;
            for (int p = 0; p < PLACES; p++) {
                Room room = roomRow[p];
                if (room != null && room.kind == kind && room.isOpen(n)) {
                    sum += room.units();
                }
            }
            return sum;
        }

        int roomCount() {
            int sum = 0;
            for (int p = 0; p < PLACES; p++) {
                sum += roomRow[p] != null ? 1 : 0;
            }
            return sum;
        }

        int storeCount() {
            int sum = 0;
            for (int p = 0; p < PLACES; p++) {
                sum += storeRow[p] ? 1 : 0;
            }
            return sum;
        }

        int doorCount() {
            int sum = 0;
            for (int p = 0; p < PLACES; p++) {
                Room room = roomRow[p];
                sum += room != null && room.neighbour > p ? 1 : 0;
            }
            return sum;
        }
    }

    /** A promise with its spots by night: as it had them ahead of the day, by the plan from the day on. */
    private static final class Promise {
        private final int want;
        private final int people;
        private final int till;
        private int state;
        private int from;
        private int to;
        private long cost;
        private final int[] spotRow = new int[NIGHTS];

        Promise(int want, int people, int till) {
            this.want = want;
            this.people = people;
            this.till = till;
            this.state = till == NONE ? FIRM : HELD;
            Arrays.fill(spotRow, NONE);
        }

        void setNights(int newFrom, int newTo, long newCost) {
            from = newFrom;
            to = newTo;
            cost = newCost;
        }

        boolean stands() {
            return state == HELD || state == FIRM || state == COME;
        }

        boolean isAhead() {
            return state == HELD || state == FIRM;
        }

        boolean covers(int n) {
            return from <= n && n < to;
        }

        int spotIn(int n) {
            return isNight(n) ? spotRow[n] : NONE;
        }

        void setSpot(int n, int code) {
            if (isNight(n)) {
                spotRow[n] = code;
            }
        }

        int nightsHad(int day) {
            int sum = 0;
            for (int n = 0; n < day; n++) {
                sum += spotIn(n) != NONE ? 1 : 0;
            }
            return sum;
        }

        int movesIn(int begin, int end) {
            int sum = 0;
            for (int n = begin; n < end; n++) {
                int before = spotIn(n - 1);
                int now = spotIn(n);
                sum += before != NONE && now != NONE && before != now ? 1 : 0;
            }
            return sum;
        }
    }

    /** All promises by number, and what the end of a day makes of them. */
    private static final class Book {
        private final Promise[] promiseRow = new Promise[MOST_PROMISES];
        private int size;

        Promise at(int q) {
            return q >= 0 && q < size && q < MOST_PROMISES ? promiseRow[q] : null;
        }

        boolean isFull() {
            return size >= MOST_PROMISES;
        }

        int enter(Promise promise) {
            if (size < 0 || size >= MOST_PROMISES) {
                return NONE;
            }
            promiseRow[size] = promise;
            size++;
            return size - 1;
        }

        int standingCount() {
            int sum = 0;
            for (int q = 0; q < size; q++) {
                Promise promise = at(q);
                sum += promise != null && promise.stands() ? 1 : 0;
            }
            return sum;
        }

        void missNight(int n) {
            for (int q = 0; q < size; q++) {
                Promise promise = at(q);
                if (promise != null && promise.isAhead() && promise.covers(n)) {
                    promise.state = MISSED;
                }
            }
        }

        /** The plan gives a spot to everybody whom it keeps, so that without a spot means not kept. */
        int walkFrom(int n) {
            int walked = 0;
            for (int q = 0; q < size; q++) {
                Promise promise = at(q);
                if (promise != null && promise.state == COME && promise.covers(n) && promise.spotIn(n) == NONE) {
                    promise.state = WALKED;
                    walked++;
                }
            }
            return walked;
        }

        void turnTo(int day) {
            for (int q = 0; q < size; q++) {
                Promise promise = at(q);
                if (promise == null) {
                    continue;
                }
                if (promise.state == COME && promise.to == day) {
                    promise.state = GONE;
                } else if (promise.state == HELD && promise.till < day) {
                    promise.state = FALLEN;
                }
            }
        }
    }

    /** What is free in one night, and how many of each want have no spot yet. */
    private static final class Vacancy {
        private final House house;
        /** By place a bit for each bed; of a room that is no Dorm bit 0 alone. */
        private final int[] freeBits = new int[PLACES];
        private final int[] freeOfKind = new int[KINDS];
        private final int[] needs = new int[WANTS];
        private int freeSuites;

        Vacancy(House house) {
            this.house = house;
        }

        void begin(int n) {
            Arrays.fill(freeOfKind, 0);
            Arrays.fill(needs, 0);
            freeSuites = 0;
            for (int p = 0; p < PLACES; p++) {
                freeBits[p] = 0;
                Room room = house.roomAt(p);
                if (room != null && room.isOpen(n)) {
                    freeBits[p] = (1 << room.units()) - 1;
                    freeOfKind[room.kind] += room.units();
                    freeSuites += room.neighbour < p && isFree(room.neighbour, 0) ? 1 : 0;
                }
            }
        }

        void addNeed(int want) {
            if (isWant(want)) {
                needs[want]++;
            }
        }

        void dropNeed(int want) {
            if (isWant(want)) {
                needs[want]--;
            }
        }

        /**
         * Doubles are all alike to whoever wants no suite, and each room that suits a ground suits a double too, and
         * so on: hence it is enough to count, and no pairing of promises with rooms has to be searched.
         */
        boolean fits() {
            int grounds = freeOfKind[GROUND];
            int twoBedded = grounds + freeOfKind[DOUBLE] - 2 * needs[WANT_SUITE];
            int whole = twoBedded + freeOfKind[SINGLE];
            int forTwo = needs[WANT_GROUND] + needs[WANT_DOUBLE];
            return needs[WANT_BED] <= freeOfKind[DORM]
                && needs[WANT_SUITE] <= freeSuites
                && needs[WANT_GROUND] <= grounds
                && forTwo <= twoBedded
                && forTwo + needs[WANT_SINGLE] <= whole;
        }

        /** A suite can cost two others their rooms, so that every number of suites is tried. */
        int shortage() {
            int suites = Math.min(needs[WANT_SUITE], freeSuites);
            int least = roomless(0);
            for (int k = 1; k <= suites; k++) {
                least = Math.min(least, roomless(k));
            }
            return least + Math.max(0, needs[WANT_BED] - freeOfKind[DORM]);
        }

        private int roomless(int suites) {
            int grounds = Math.min(needs[WANT_GROUND], freeOfKind[GROUND]);
            int twoBedded = freeOfKind[GROUND] - grounds + freeOfKind[DOUBLE] - 2 * suites;
            int doubles = Math.min(needs[WANT_DOUBLE], twoBedded);
            int singles = Math.min(needs[WANT_SINGLE], twoBedded - doubles + freeOfKind[SINGLE]);
            int wanted = needs[WANT_SINGLE] + needs[WANT_DOUBLE] + needs[WANT_GROUND] + needs[WANT_SUITE];
            return wanted - grounds - doubles - singles - suites;
        }

        /** Somebody who wants so has the spot, if it is free and all others still fit; else nothing is taken. */
        boolean take(int code, int want) {
            int place = placeOf(code);
            int bed = bedOf(code);
            boolean suite = isSuite(code);
            if (!isFree(place, bed) || suite && !isFree(place + 1, 0)) {
                return false;
            }
            dropNeed(want);
            turn(place, bed, -1);
            if (suite) {
                turn(place + 1, 0, -1);
            }
            if (fits()) {
                return true;
            }
            addNeed(want);
            turn(place, bed, 1);
            if (suite) {
                turn(place + 1, 0, 1);
            }
            return false;
        }

        private boolean isFree(int place, int bed) {
            return place >= 0 && place < PLACES && (freeBits[place] >> bed & 1) == 1;
        }

        /** Takes (step -1) or gives back (step 1); a suite is free just as long as both its rooms are. */
        private void turn(int place, int bed, int step) {
            Room room = house.roomAt(place);
            if (room == null || place < 0 || place >= PLACES) {
                return;
            }
            freeBits[place] ^= 1 << bed;
            freeOfKind[room.kind] += step;
            if (isFree(room.neighbour, 0)) {
                freeSuites += step;
            }
        }
    }

    /** Makes the plan night by night: who is kept, and who has which spot. */
    private static final class Plan {
        private final House house;
        private final Book book;
        private final Vacancy vacancy;
        /** Of the night in hand: who stands and wants it, by number, and whether they are kept. */
        private final Promise[] wanting = new Promise[MOST_PROMISES];
        private final boolean[] kept = new boolean[MOST_PROMISES];
        private int wantingCount;

        Plan(House house, Book book, Vacancy vacancy) {
            this.house = house;
            this.book = book;
            this.vacancy = vacancy;
        }

        void makeNight(int n) {
            gather(n);
            if (wantingCount == 0) {
                return;
            }
            vacancy.begin(n);
            keepThose(COME);
            keepThose(FIRM);
            keepThose(HELD);
            for (int i = 0; i < wantingCount && i < MOST_PROMISES; i++) {
                Promise promise = wanting[i];
                if (promise != null && kept[i]) {
                    promise.setSpot(n, spotAgain(promise, n));
                }
            }
            for (int i = 0; i < wantingCount && i < MOST_PROMISES; i++) {
                Promise promise = wanting[i];
                if (promise != null && kept[i] && promise.spotIn(n) == NONE) {
                    promise.setSpot(n, promise.want == WANT_SUITE ? firstSuite() : firstUnit(promise.want));
                }
            }
        }

        /** Clears an older plan's spots as well, also of those who do not want the night any more. */
        private void gather(int n) {
            wantingCount = 0;
            for (int q = 0; q < book.size; q++) {
                Promise promise = book.at(q);
                if (promise == null) {
                    continue;
                }
                promise.setSpot(n, NONE);
                if (promise.stands() && promise.covers(n) && wantingCount < MOST_PROMISES) {
                    wanting[wantingCount] = promise;
                    kept[wantingCount] = false;
                    wantingCount++;
                }
            }
        }

        private void keepThose(int state) {
            for (int i = 0; i < wantingCount && i < MOST_PROMISES; i++) {
                Promise promise = wanting[i];
                if (promise == null || promise.state != state) {
                    continue;
                }
                vacancy.addNeed(promise.want);
                kept[i] = vacancy.fits();
                if (!kept[i]) {
                    vacancy.dropNeed(promise.want);
                }
            }
        }

        private int spotAgain(Promise promise, int n) {
            int before = promise.spotIn(n - 1);
            return vacancy.take(before, promise.want) ? before : NONE;
        }

        private int firstSuite() {
            for (int p = 0; p < PLACES; p++) {
                Room room = house.roomAt(p);
                int code = spotCode(p, 0, true);
                if (room != null && room.neighbour > p && vacancy.take(code, WANT_SUITE)) {
                    return code;
                }
            }
            return NONE;
        }

        private int firstUnit(int want) {
            for (int p = 0; p < PLACES; p++) {
                Room room = house.roomAt(p);
                int units = room != null && room.suits(want) ? room.units() : 0;
                for (int bed = 0; bed < units; bed++) {
                    int code = spotCode(p, bed, false);
                    if (vacancy.take(code, want)) {
                        return code;
                    }
                }
            }
            return NONE;
        }
    }

    private static final class Rule {
        private final int sort;
        private final int n;
        private final int percentage;
        private boolean holds = true;

        Rule(int sort, int n, int percentage) {
            this.sort = sort;
            this.n = n;
            this.percentage = percentage;
        }

        boolean forbidsEnd(int to) {
            return holds && sort == RULE_NEXT_NIGHT && to == n + 1;
        }

        int percentageOf(int length, int ahead) {
            boolean meant = sort == RULE_LENGTH && length >= n || sort == RULE_AHEAD && ahead >= n;
            return holds && meant ? percentage : 0;
        }
    }

    /** Prices and rules, and the cheapest way to cut a wish into several. */
    private static final class Tariff {
        private final int[][] amounts = new int[WANTS][NIGHTS];
        private final Rule[] ruleRow = new Rule[MOST_RULES];
        private int ruleCount;
        /** By night: the least cost, and the fewest parts at that cost, of the wish's nights ahead of it. */
        private final long[] best = new long[NIGHTS + 1];
        private final int[] parts = new int[NIGHTS + 1];

        void setAmount(int want, int from, int to, int amount) {
            if (!isWant(want)) {
                return;
            }
            for (int n = Math.max(from, 0); n < to && n < NIGHTS; n++) {
                amounts[want][n] = amount;
            }
        }

        int addRule(int sort, int n, int percentage) {
            if (ruleCount < 0 || ruleCount >= MOST_RULES || !isRule(sort, n, percentage)) {
                return NONE;
            }
            ruleRow[ruleCount] = new Rule(sort, n, percentage);
            ruleCount++;
            return ruleCount - 1;
        }

        private static boolean isRule(int sort, int n, int percentage) {
            if (sort == RULE_NEXT_NIGHT) {
                return n >= 0 && n <= NIGHTS - 2;
            }
            boolean known = sort == RULE_LENGTH || sort == RULE_AHEAD;
            return known && n >= 1 && n <= NIGHTS && percentage >= -100 && percentage <= 300;
        }

        boolean endRule(int k) {
            Rule ended = k >= 0 && k < MOST_RULES ? ruleRow[k] : null;
            if (ended == null || !ended.holds) {
                return false;
            }
            ended.holds = false;
            return true;
        }

        int heldRules() {
            int sum = 0;
            for (int k = 0; k < ruleCount && k < MOST_RULES; k++) {
                Rule one = ruleRow[k];
                sum += one != null && one.holds ? 1 : 0;
            }
            return sum;
        }

        /** A wish that is without a break from its first night on is only ever against a rule by where it ends. */
        private boolean mayEnd(int to) {
            for (int k = 0; k < ruleCount && k < MOST_RULES; k++) {
                Rule one = ruleRow[k];
                if (one != null && one.forbidsEnd(to)) {
                    return false;
                }
            }
            return true;
        }

        private long costBy(long sum, int length, int ahead) {
            int percent = 100;
            for (int k = 0; k < ruleCount && k < MOST_RULES; k++) {
                Rule one = ruleRow[k];
                percent += one != null ? one.percentageOf(length, ahead) : 0;
            }
            return sum * Math.max(percent, 0) / 100;
        }

        long costOf(int want, int from, int to, int day) {
            if (!isWant(want) || !isSpan(from, to) || !mayEnd(to)) {
                return NONE;
            }
            long sum = 0;
            for (int n = from; n < to; n++) {
                sum += amounts[want][n];
            }
            return costBy(sum, to - from, from - day);
        }

        long leastCost(int want, int from, int to, int day) {
            return search(want, from, to, day) ? best[to] : NONE;
        }

        int leastParts(int want, int from, int to, int day) {
            return search(want, from, to, day) ? parts[to] : NONE;
        }

        private boolean search(int want, int from, int to, int day) {
            if (!isWant(want) || !isSpan(from, to)) {
                return false;
            }
            best[from] = 0;
            parts[from] = 0;
            for (int end = from + 1; end <= to; end++) {
                best[end] = NONE;
                if (mayEnd(end)) {
                    searchLastPart(want, from, end, day);
                }
            }
            return best[to] != NONE;
        }

        private void searchLastPart(int want, int from, int end, int day) {
            long sum = 0;
            for (int start = end - 1; start >= from; start--) {
                sum += amounts[want][start];
                if (best[start] == NONE) {
                    continue;
                }
                long whole = best[start] + costBy(sum, end - start, start - day);
                int pieces = parts[start] + 1;
                if (best[end] == NONE || whole < best[end] || whole == best[end] && pieces < parts[end]) {
                    best[end] = whole;
                    parts[end] = pieces;
                }
            }
        }
    }
}
