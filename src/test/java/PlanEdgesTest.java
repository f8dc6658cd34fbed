/** Promises 18 to 22 with sections 1 to 3, boundary by boundary. */
public final class PlanEdgesTest {
    /** Day 1 of a house with every kind; promises 0 (a double, has come) to 4. */
    private static final Stand DAY1 = Stand.with(
        "room 0 1 2 0 60; room 1 1 2 0 60; room 2 2 0 0 60; room 3 0 9 0 60; room 15 3 5 6 60; door 0;"
        + "promise 2 1 0 3 -1; come 0; next; promise 4 1 3 5 -1; promise 1 1 1 6 4; promise 0 1 1 60 -1;"
        + "promise 3 2 58 60 -1");

    public static void main(String[] args) {
        spotNumbers();
        spotCodes();
        spotBeds();
        spotSuits();
        spotOpen();
        spotOfThePast();
        keptByState();
        keptByNumber();
        keptThoughMoreCouldBe();
        again();
        againUnlessNeeded();
        againInASuite();
        againOnTheDay();
        anew();
        firstInOrder();
        moves();
        movesAtTheEnds();
        floorNumbers();
        floorsAll();
        lacks();
        lacksBySuites();
        roomNumbers();
        roomsOpen();
        Check.end();
    }

    private static void spotNumbers() {
        DAY1.tells("spot 3 1", 480);
        DAY1.tells("spot 3 59", 480);
        DAY1.tells("spot 4 59", 64);
        for (String q : new String[] {"-1", "5", "39", "40", "MIN", "MAX"}) {
            DAY1.refuses("spot " + q + " 1", -1);
            DAY1.refuses("spot " + q + " 0", -1);
        }
        for (String n : new String[] {"-1", "60", "MIN", "MAX"}) {
            DAY1.refuses("spot 0 " + n, -1);
            DAY1.refuses("spot 3 " + n, -1);
        }
        DAY1.tells("spot 1 2", -1);
        DAY1.tells("spot 1 3", 1);
        DAY1.tells("spot 1 4", 1);
        DAY1.tells("spot 1 5", -1);
        DAY1.tells("spot 0 0", 0);
        DAY1.tells("spot 0 2", 0);
        DAY1.tells("spot 0 3", -1);
    }

    private static void spotCodes() {
        Stand ends = Stand.with("room 0 3 0 2 60; room 14 1 0 0 60; room 15 1 0 0 60; door 14; promise 0 1 0 1 -1;"
            + "promise 0 1 0 1 -1; promise 4 4 0 1 -1; promise 2 1 1 2 -1; promise 2 1 1 2 -1");
        ends.tells("spot 0 0", 0);
        ends.tells("spot 1 0", 4);
        ends.tells("spot 2 0", 449);
        ends.tells("spot 3 1", 448);
        ends.tells("spot 4 1", 480);
        Stand first = Stand.with("room 0 1 0 0 60; room 1 1 0 0 60; door 0; promise 4 4 0 1 -1");
        first.tells("spot 0 0", 1);
    }

    /** Six beds are had, a seventh wish is not: the beds in order, and the last one's number. */
    private static void spotBeds() {
        Stand dorm = Stand.with("room 15 3 0 6 60; over 1;" + "promise 0 1 0 1 -1;".repeat(7));
        for (int q = 0; q < 6; q++) {
            dorm.tells("spot " + q + " 0", 480 + 4 * q);
        }
        dorm.tells("spot 6 0", -1);
        dorm.and("cancel 2").tells("spot 6 0", 500);
        dorm.and("cancel 2").tells("spot 3 0", 488);
        Stand many = Stand.with("room 0 3 0 6 60; room 1 3 0 6 60; room 2 3 0 6 60; room 3 3 0 6 60; room 4 3 0 6 60;"
            + "room 5 3 0 6 60; room 6 3 0 4 60;" + "promise 0 1 0 1 -1;".repeat(40));
        many.tells("count 4", 40);
        many.tells("lacks 0", 0);
        many.tells("spot 5 0", 20);
        many.tells("spot 6 0", 32);
        many.tells("spot 39 0", 204);
        many.and("close 0").tells("lacks 0", 6);
        many.and("close 0").tells("spot 0 0", 32);
        many.and("close 0").tells("spot 33 0", 204);
        many.and("close 0").tells("spot 34 0", -1);
    }

    /** Each want in a house of each kind alone: just what suits is had. */
    private static void spotSuits() {
        String[] fits = {"3", "012", "12", "2", ""};
        for (int want = 0; want < 5; want++) {
            for (int kind = 0; kind < 4; kind++) {
                Stand one = Stand.with("over 1; room 7 " + kind + " 0 2 60; promise " + want + " 1 0 1 -1");
                boolean suits = fits[want].contains("" + kind);
                one.tells("spot 0 0", suits ? 224 : -1);
                one.tells("lacks 0", suits ? 0 : 1);
            }
        }
        Stand pair = Stand.with("over 1; room 7 1 0 0 60; room 8 1 0 0 60; promise 4 1 0 1 -1");
        pair.tells("spot 0 0", -1);
        pair.and("door 7").tells("spot 0 0", 225);
        Stand joined = pair.and("door 7; cancel 0");
        joined.and("promise 1 1 0 1 -1").tells("spot 1 0", 224);
        joined.and("promise 2 1 0 1 -1").tells("spot 1 0", 224);
        joined.and("promise 3 1 0 1 -1").tells("spot 1 0", -1);
        joined.and("promise 0 1 0 1 -1").tells("spot 1 0", -1);
    }

    private static void spotOpen() {
        Stand ten = Stand.with("over 1; room 0 0 0 0 10; promise 1 1 8 12 -1");
        ten.tells("spot 0 8", 0);
        ten.tells("spot 0 9", 0);
        ten.tells("spot 0 10", -1);
        ten.and("open 0 1").tells("spot 0 10", 0);
        ten.and("open 0 1").tells("spot 0 11", -1);
        ten.and("shut 0 9 10 1").tells("spot 0 8", 0);
        ten.and("shut 0 9 10 1").tells("spot 0 9", -1);
        ten.and("close 0").tells("spot 0 8", -1);
        ten.and("close 0; open 0 9").tells("spot 0 8", 0);
        ten.and("close 0; open 0 9").tells("spot 0 9", -1);
        Stand suite = Stand.with("over 1; room 0 1 0 0 10; room 1 1 0 0 9; door 0; promise 4 1 8 12 -1");
        suite.tells("spot 0 8", 1);
        suite.tells("spot 0 9", -1);
        suite.and("open 1 1").tells("spot 0 9", 1);
        suite.and("open 1 1; shut 0 9 10 1").tells("spot 0 9", -1);
    }

    /** What was had stays as it was, whatever becomes of the room; the plan begins with the day. */
    private static void spotOfThePast() {
        DAY1.tells("spot 0 0", 0);
        DAY1.and("close 0").tells("spot 0 0", 0);
        DAY1.and("close 0").tells("spot 0 1", 32);
        DAY1.and("shut 0 0 1 1").tells("spot 0 0", 0);
        DAY1.and("shut 0 0 1 1").tells("spot 0 1", 0);
        DAY1.days(3).tells("spot 0 2", 0);
        DAY1.days(3).tells("promised 0 0", 3);
        Stand none = Stand.with("room 0 0 0 0 60; next; promise 1 1 1 3 -1");
        none.tells("spot 0 0", -1);
        none.tells("spot 0 1", 0);
        none.days(1).tells("spot 0 1", -1);
        none.and("come 0").days(1).tells("spot 0 1", 0);
    }

    private static void keptByState() {
        Stand three = Stand.with("over 2; room 0 0 0 0 60; promise 1 1 0 1 0; promise 1 1 0 1 -1; promise 1 1 0 1 -1");
        three.tells("spot 1 0", 0);
        three.tells("spot 0 0", -1);
        three.tells("spot 2 0", -1);
        three.and("come 2").tells("spot 2 0", 0);
        three.and("come 2").tells("spot 1 0", -1);
        three.and("firm 0").tells("spot 0 0", 0);
        three.and("firm 0").tells("spot 1 0", -1);
        three.and("come 2; come 0").tells("spot 0 0", 0);
        three.and("cancel 1; cancel 2").tells("spot 0 0", 0);
        three.and("cancel 1").tells("spot 2 0", 0);
        // who has a spot the night before, but is held, leaves it to who is firm
        Stand later = Stand.with("over 1; room 0 0 0 0 60; promise 1 1 0 2 9; promise 1 1 1 2 -1");
        later.tells("spot 0 0", 0);
        later.tells("spot 0 1", -1);
        later.tells("spot 1 1", 0);
        later.tells("moves", 0);
        later.and("come 0").tells("spot 0 1", 0);
        later.and("come 0").tells("spot 1 1", -1);
    }

    private static void keptByNumber() {
        for (int till = -1; till <= 0; till++) {
            String one = "promise 1 1 0 1 " + till + ";";
            Stand four = Stand.with("over 2; room 0 0 0 0 60; room 1 0 0 0 60;" + one.repeat(4));
            four.tells("spot 0 0", 0);
            four.tells("spot 1 0", 32);
            four.tells("spot 2 0", -1);
            four.tells("spot 3 0", -1);
            Stand come = four.and("come 3; come 2; come 1");
            come.tells("spot 1 0", 0);
            come.tells("spot 2 0", 32);
            come.tells("spot 3 0", -1);
            come.does("next", 1);
        }
        // who cannot be kept stands in nobody's way behind it
        Stand gap = Stand.with("over 3; room 0 0 0 0 60; promise 3 1 0 1 -1; promise 0 1 0 1 -1; promise 1 1 0 1 -1");
        gap.tells("spot 0 0", -1);
        gap.tells("spot 1 0", -1);
        gap.tells("spot 2 0", 0);
    }

    /** One by one, as section 3 says: a suite that comes first is kept, though two doubles are left out for it. */
    private static void keptThoughMoreCouldBe() {
        Stand pair = Stand.with("over 2; room 0 1 0 0 60; room 1 1 0 0 60; door 0;");
        Stand suite = pair.and("promise 4 1 0 1 -1; promise 2 1 0 1 -1; promise 2 1 0 1 -1");
        suite.tells("spot 0 0", 1);
        suite.tells("spot 1 0", -1);
        suite.tells("spot 2 0", -1);
        suite.tells("lacks 0", 1);
        suite.and("come 0; come 1; come 2").does("next", 2);
        Stand last = pair.and("promise 2 1 0 1 -1; promise 2 1 0 1 -1; promise 4 1 0 1 -1");
        last.tells("spot 0 0", 0);
        last.tells("spot 1 0", 32);
        last.tells("spot 2 0", -1);
        last.and("come 0; come 1; come 2").does("next", 1);
        last.and("cancel 1").tells("spot 2 0", -1);
        last.and("cancel 0; cancel 1").tells("spot 2 0", 1);
    }

    /** It is had again while it is open; a lesser number that begins later gets another one. */
    private static void again() {
        Stand two = Stand.with("room 0 0 0 0 60; room 1 0 0 0 60; promise 1 1 3 6 -1; promise 1 1 2 5 -1");
        two.tells("spot 1 2", 0);
        two.tells("spot 1 3", 0);
        two.tells("spot 0 3", 32);
        two.tells("spot 0 5", 32);
        two.tells("moves", 0);
        Stand shut = two.and("shut 0 4 5 1; room 2 0 0 0 60");
        shut.tells("spot 1 3", 0);
        shut.tells("spot 1 4", 64);
        shut.tells("spot 0 4", 32);
        shut.tells("spot 0 5", 32);
        shut.tells("moves", 1);
        two.and("shut 0 5 6 1").tells("moves", 0);
        // in the night that a lesser number begins as well, it is the first
        two.and("change 1 3 6").tells("spot 0 3", 0);
        two.and("change 1 3 6").tells("spot 1 3", 32);
    }

    private static void againUnlessNeeded() {
        String rooms = "room 0 2 0 0 60; room 1 1 0 0 60; room 2 0 0 0 60; promise 1 1 0 4 -1;";
        Stand ground = Stand.with(rooms + "promise 3 1 2 3 -1");
        ground.tells("spot 0 1", 0);
        ground.tells("spot 0 2", 32);
        ground.tells("spot 0 3", 32);
        ground.tells("spot 1 2", 0);
        ground.tells("moves", 1);
        Stand other = Stand.with(rooms + "promise 2 1 2 3 -1");
        other.tells("spot 0 2", 0);
        other.tells("spot 1 2", 32);
        other.tells("moves", 0);
        Stand both = ground.and("promise 2 1 2 3 -1");
        both.tells("spot 0 2", 64);
        both.tells("spot 2 2", 32);
        both.tells("moves", 1);
        both.tells("lacks 2", 0);
        // who is not kept is no need
        ground.and("over 1; change 0 0 4; shut 0 2 3 1").tells("spot 0 2", 32);
        Stand held = Stand.with("over 1; room 0 2 0 0 60; promise 1 1 0 4 -1; promise 3 1 2 3 5");
        held.tells("spot 0 2", 0);
        held.tells("spot 1 2", -1);
        // a double must leave a suite that is wanted, if it can go elsewhere
        Stand suite = Stand.with("room 0 1 0 0 60; room 1 1 0 0 60; room 2 1 0 0 60; door 0;"
            + "promise 2 1 0 3 -1; promise 4 1 1 2 -1");
        suite.tells("spot 0 0", 0);
        suite.tells("spot 0 1", 64);
        suite.tells("spot 0 2", 64);
        suite.tells("spot 1 1", 1);
        suite.and("change 1 3 4").tells("moves", 0);
    }

    /** A suite is had again while both its rooms are open. */
    private static void againInASuite() {
        Stand two = Stand.with("room 0 1 0 0 60; room 1 1 0 0 60; room 2 1 0 0 60; room 3 1 0 0 60; door 0; door 2;"
            + "promise 4 1 0 3 -1");
        two.tells("spot 0 1", 1);
        for (int p = 0; p < 2; p++) {
            Stand shut = two.and("shut " + p + " 1 2 1");
            shut.tells("spot 0 0", 1);
            shut.tells("spot 0 1", 65);
            shut.tells("spot 0 2", 65);
            shut.tells("moves", 1);
        }
        two.and("shut 2 1 2 1; shut 3 1 2 1").tells("moves", 0);
        two.and("shut 1 1 2 1; shut 3 1 2 1").tells("spot 0 1", -1);
        // one half is had by somebody who stays
        Stand half = Stand.with("room 0 1 0 0 60; room 1 1 0 0 60; room 2 1 0 0 60; room 3 1 0 0 60; door 0; door 2;"
            + "shut 0 0 1 1; promise 2 1 0 3 -1; promise 4 1 1 3 -1");
        half.tells("spot 0 1", 32);
        half.tells("spot 1 1", 65);
        half.tells("rooms 1 1 1", 3);
    }

    /** In the night of the day: who had a spot the night before, not who was planned to. */
    private static void againOnTheDay() {
        Stand two = Stand.with("room 0 0 0 0 60; room 1 0 0 0 60; promise 1 1 0 3 -1; promise 1 1 0 3 -1; come 1");
        two.tells("spot 1 0", 32);
        two.tells("spot 1 1", 32);
        Stand over = two.days(1);
        over.tells("spot 1 0", 0);
        over.tells("spot 1 1", 0);
        over.tells("moves", 0);
        over.and("close 0").tells("spot 1 1", 32);
        over.and("close 0").tells("moves", 1);
        over.and("close 0").days(1).tells("promised 1 8", 1);
        over.and("close 0").days(1).tells("moves", 0);
        over.and("close 0; open 0 60").tells("spot 1 1", 0);
    }

    /** Whatever changes, the plan is as it would be without having been asked ahead: in the first night, in the last. */
    private static void anew() {
        for (int n : new int[] {0, 1, 59}) {
            String night = n + " " + (n + 1);
            Stand.with("over 1; promise 1 1 " + night + " -1").does("room 3 0 0 0 60", 1);
            Stand one = Stand.with("over 1; room 0 0 0 0 60; room 1 1 0 0 60; room 2 1 0 0 60; room 3 0 0 0 " + n
                + "; promise 1 1 " + night + " -1; promise 4 1 " + night + " 0");
            one.does("door 1", 1);
            one.does("close 0", 1);
            one.does("shut 0 " + night + " 1", 1);
            one.and("close 0; close 1; close 2").does("open 3 1", n + 1);
            one.and("close 0; close 1; close 2; close 3").does("open 3 60", 60);
            one.and("shut 0 0 60 1").does("shut 0 " + night + " 0", 1);
            one.does("promise 1 1 " + night + " -1", 2);
            one.does("cancel 0", 1);
            one.and("over 9; close 1; close 2; close 3; cancel 0; promise 1 1 " + night + " 0; promise 1 1 " + night
                + " 0").does("firm 3", 1);
            one.does("change 0 30 31", 0);
            one.and("change 0 30 31").does("change 0 " + night, 0);
        }
        Stand day = Stand.with("over 1; room 0 0 0 0 60; promise 1 1 0 2 -1; promise 1 1 0 2 -1");
        day.does("come 1", 1);
        day.does("next", 0);
        day.and("come 1").does("next", 0);
        day.and("come 0; come 1").does("next", 1);
        Stand.with("over 1; room 0 0 0 0 60; promise 1 1 1 2 0; promise 1 1 1 2 9").does("next", 0);
    }

    private static void firstInOrder() {
        Stand mixed = Stand.with("room 0 0 0 0 60; room 1 1 0 0 60; room 2 2 0 0 60");
        mixed.and("promise 1 1 0 1 -1").tells("spot 0 0", 0);
        mixed.and("promise 2 1 0 1 -1").tells("spot 0 0", 32);
        mixed.and("promise 3 1 0 1 -1").tells("spot 0 0", 64);
        Stand turned = Stand.with("room 0 2 0 0 60; room 1 1 0 0 60; room 2 0 0 0 60; promise 1 1 0 1 -1");
        turned.tells("spot 0 0", 0);
        turned.and("promise 2 1 0 1 -1").tells("spot 0 0", 0);
        turned.and("promise 2 1 0 1 -1; promise 2 1 0 1 -1").tells("spot 0 0", 64);
        turned.and("promise 2 1 0 1 -1; promise 2 1 0 1 -1").tells("spot 1 0", 0);
        turned.and("promise 2 1 0 1 -1; promise 3 1 0 1 -1").tells("spot 1 0", 32);
        Stand suites = Stand.with("room 0 1 0 0 60; room 1 1 0 0 60; room 2 1 0 0 60; room 3 1 0 0 60; door 0; door 2");
        suites.and("promise 4 1 0 1 -1").tells("spot 0 0", 1);
        suites.and("promise 2 1 0 1 -1; promise 4 1 0 1 -1").tells("spot 1 0", 65);
        suites.and("promise 4 1 0 1 -1; promise 2 1 0 1 -1").tells("spot 1 0", 64);
        suites.and("promise 4 1 0 1 -1; promise 4 1 0 1 -1").tells("spot 1 0", 65);
        Stand tight = suites.and("promise 2 1 0 1 -1; promise 2 1 0 1 -1; promise 4 1 0 1 -1");
        tight.tells("spot 0 0", 0);
        tight.tells("spot 1 0", 32);
        tight.tells("spot 2 0", 65);
        // behind a suite the Doubles that are left are fewer by two: the single leaves the last one to the double
        Stand behind = Stand.with("room 0 1 0 0 60; room 1 1 0 0 60; room 2 1 0 0 60; room 3 0 0 0 60; door 0;"
            + "promise 4 1 0 1 -1; promise 1 1 0 1 -1");
        behind.tells("spot 1 0", 64);
        behind.and("promise 2 1 0 1 -1").tells("spot 1 0", 96);
        behind.and("promise 2 1 0 1 -1").tells("spot 2 0", 64);
        // a spot that the first could not have is left to those behind it
        Stand left = Stand.with("room 0 2 0 0 60; room 1 1 0 0 60; room 2 1 0 0 60; room 3 0 0 0 60;"
            + "promise 2 1 0 1 -1; promise 1 1 0 1 -1; promise 2 1 0 1 -1; promise 3 1 0 1 -1");
        left.tells("spot 0 0", 32);
        left.tells("spot 1 0", 96);
        left.tells("spot 2 0", 64);
        left.tells("spot 3 0", 0);
    }

    private static void moves() {
        Stand.with("").tells("moves", 0);
        DAY1.tells("moves", 1);
        DAY1.and("cancel 1").tells("moves", 0);
        // a night without a spot between two is no move, neither is the first night or the last
        Stand gap = Stand.with("room 0 0 0 0 60; room 1 0 0 0 60; promise 1 1 0 3 -1; shut 0 1 3 1");
        gap.tells("moves", 1);
        gap.and("shut 1 1 2 1").tells("spot 0 2", 32);
        gap.and("shut 1 1 2 1").tells("moves", 0);
        gap.and("shut 1 1 3 1").tells("moves", 0);
        gap.and("shut 0 0 1 1").tells("moves", 0);
        // from one bed to another of the same Dorm
        Stand beds = Stand.with("over 9; room 0 3 0 2 60; room 1 3 0 2 60; shut 1 0 1 1;"
            + "promise 0 1 0 2 -1; promise 0 1 0 2 -1; shut 0 1 2 1");
        beds.tells("spot 0 1", 32);
        beds.tells("spot 1 1", 36);
        beds.tells("moves", 2);
    }

    private static void movesAtTheEnds() {
        Stand late = Stand.with("room 0 0 0 0 59; room 1 0 0 0 60; promise 1 1 58 60 -1");
        late.tells("moves", 1);
        late.and("open 0 1").tells("moves", 0);
        // the move into the night of the day counts for the plan until the day ends, for the promise from then on
        Stand day = Stand.with("room 0 0 0 0 1; room 1 0 0 0 60; promise 1 1 0 3 -1; come 0");
        day.tells("moves", 1);
        day.tells("promised 0 8", 0);
        day.days(1).tells("moves", 1);
        day.days(1).tells("promised 0 8", 0);
        day.days(2).tells("moves", 0);
        day.days(2).tells("promised 0 8", 1);
        day.days(3).tells("promised 0 0", 3);
        day.days(3).tells("promised 0 7", 3);
        day.days(3).tells("promised 0 8", 1);
    }

    private static void floorNumbers() {
        Stand five = Stand.with("room 0 0 0 0 60; room 1 0 9 0 60; room 2 0 9 0 60; room 3 0 4 0 60;"
            + "promise 1 1 0 2 -1; promise 1 1 0 2 -1; promise 1 1 0 2 -1; promise 1 1 1 2 -1");
        five.tells("floors 0 0 0", 1);
        five.tells("floors 0 1 0", 2);
        five.tells("floors 1 2 0", 1);
        five.tells("floors 0 2 0", 2);
        five.tells("floors 0 3 0", 2);
        five.tells("floors 3 3 0", 0);
        five.tells("floors 0 3 1", 3);
        five.tells("floors 3 4 1", 1);
        five.tells("floors 4 9 1", 0);
        five.tells("floors -1 0 1", 1);
        five.tells("floors -9 -1 1", 0);
        five.tells("floors 1 0 1", 0);
        five.tells("floors 3 2 1", 0);
        five.tells("floors MIN MAX 1", 3);
        five.tells("floors MAX MIN 1", 0);
        five.tells("floors MAX MAX 1", 0);
        five.tells("floors 0 3 2", 0);
        five.tells("floors 0 3 59", 0);
        for (String n : new String[] {"-1", "60", "MIN", "MAX"}) {
            five.refuses("floors 0 3 " + n, 0);
        }
        // a night that is over: as it was, by who had a spot
        Stand over = five.and("come 0; come 1").days(1);
        over.tells("floors 0 3 0", 2);
        over.tells("floors 2 3 0", 0);
        over.and("close 0").tells("floors 0 3 0", 2);
    }

    private static void floorsAll() {
        StringBuilder run = new StringBuilder();
        for (int p = 0; p < 10; p++) {
            run.append("room ").append(p).append(" 0 ").append(p).append(" 0 60; promise 1 1 0 1 -1;");
        }
        Stand ten = Stand.with(run.toString());
        ten.tells("floors 0 9 0", 10);
        ten.tells("floors 0 8 0", 9);
        ten.tells("floors 1 9 0", 9);
        Stand suite = Stand.with("room 0 1 3 0 60; room 1 1 3 0 60; door 0; promise 4 1 0 1 -1");
        suite.tells("floors 0 0 0", 1);
    }

    private static void lacks() {
        Stand beds = Stand.with("over 40; room 0 3 0 2 60;" + "promise 0 1 2 4 -1;".repeat(2));
        beds.tells("lacks 2", 0);
        beds.and("promise 0 1 2 4 -1").tells("lacks 1", 0);
        beds.and("promise 0 1 2 4 -1").tells("lacks 2", 1);
        beds.and("promise 0 1 2 4 -1").tells("lacks 3", 1);
        beds.and("promise 0 1 2 4 -1").tells("lacks 4", 0);
        beds.and("promise 0 1 2 4 -1; cancel 0").tells("lacks 2", 0);
        beds.and("close 0").tells("lacks 2", 2);
        for (String n : new String[] {"-1", "60", "MIN", "MAX"}) {
            beds.refuses("lacks " + n, -1);
        }
        beds.tells("lacks 0", 0);
        beds.tells("lacks 59", 0);
        beds.days(1).refuses("lacks 0", -1);
        beds.days(1).tells("lacks 1", 0);
        beds.days(2).refuses("lacks 1", -1);
        beds.and("close 0").days(2).tells("lacks 2", 2);
        beds.and("close 0").days(3).refuses("lacks 2", -1);
        beds.and("close 0").days(3).tells("lacks 3", 0);
        Stand.with("over 40;" + "promise 0 1 0 1 -1;".repeat(40)).tells("lacks 0", 40);
        // who has come counts like who is held
        Stand all = Stand.with("over 40; room 0 0 0 0 60; promise 1 1 0 1 -1; promise 1 1 0 1 0; promise 1 1 0 1 -1");
        all.tells("lacks 0", 2);
        all.and("come 0").tells("lacks 0", 2);
        // each kind of its own: a room more for who wants it mends it, a room that does not suit does not
        Stand ground = Stand.with("over 40; promise 3 1 0 1 -1");
        ground.and("room 0 1 0 0 60").tells("lacks 0", 1);
        ground.and("room 0 2 0 0 60").tells("lacks 0", 0);
        Stand two = Stand.with("over 40; promise 2 1 0 1 -1; promise 1 1 0 1 -1; room 0 1 0 0 60");
        two.tells("lacks 0", 1);
        two.and("room 1 0 0 0 60").tells("lacks 0", 0);
        two.and("room 1 3 0 2 60").tells("lacks 0", 1);
        // a Ground is had by one of them alone
        Stand both = Stand.with("over 40; promise 3 1 0 1 -1; promise 2 1 0 1 -1; room 0 2 0 0 60");
        both.tells("lacks 0", 1);
        both.and("room 1 0 0 0 60").tells("lacks 0", 1);
        both.and("room 1 1 0 0 60").tells("lacks 0", 0);
        both.and("room 1 2 0 0 60").tells("lacks 0", 0);
    }

    private static void lacksBySuites() {
        StringBuilder run = new StringBuilder("over 40;");
        for (int p = 0; p < 16; p++) {
            run.append("room ").append(p).append(" 1 0 0 60;");
            run.append(p % 2 == 1 ? "door " + (p - 1) + ";" : "");
        }
        Stand eight = Stand.with(run + "promise 4 1 0 1 -1;".repeat(8));
        eight.tells("lacks 0", 0);
        eight.tells("spot 7 0", 449);
        eight.and("promise 4 1 0 1 -1").tells("lacks 0", 1);
        eight.and("promise 2 1 0 1 -1").tells("lacks 0", 1);
        eight.and("promise 2 1 0 1 -1; promise 2 1 0 1 -1").tells("lacks 0", 1);
        eight.and("promise 2 1 0 1 -1; promise 2 1 0 1 -1; promise 2 1 0 1 -1").tells("lacks 0", 2);
        eight.and("promise 2 1 0 1 -1;".repeat(16)).tells("lacks 0", 8);
        eight.and("promise 2 1 0 1 -1;".repeat(17)).tells("lacks 0", 9);
        eight.and("shut 5 0 1 1").tells("lacks 0", 1);
        eight.and("shut 5 0 1 1; promise 2 1 0 1 -1").tells("lacks 0", 1);
        // halves of different suites are none
        Stand halves = Stand.with("over 40; room 0 1 0 0 60; room 1 1 0 0 60; room 2 1 0 0 60; room 3 1 0 0 60; door 0;"
            + "door 2; shut 1 0 1 1; shut 2 0 1 1; promise 4 1 0 2 -1");
        halves.tells("lacks 0", 1);
        halves.tells("lacks 1", 0);
        halves.tells("spot 0 1", 1);
    }

    private static void roomNumbers() {
        for (String kind : new String[] {"-1", "4", "MIN", "MAX"}) {
            DAY1.refuses("rooms " + kind + " 1 0", -1);
            DAY1.refuses("rooms " + kind + " 1 1", -1);
        }
        for (String n : new String[] {"-1", "60", "MIN", "MAX"}) {
            DAY1.refuses("rooms 1 " + n + " 0", -1);
            DAY1.refuses("rooms 1 " + n + " 1", -1);
        }
        for (String what : new String[] {"-1", "2", "MIN", "MAX"}) {
            DAY1.refuses("rooms 1 1 " + what, -1);
        }
        int[] open = {1, 2, 1, 6};
        for (int kind = 0; kind < 4; kind++) {
            DAY1.tells("rooms " + kind + " 0 0", open[kind]);
            DAY1.tells("rooms " + kind + " 59 0", open[kind]);
        }
        DAY1.tells("rooms 1 0 1", 1);
        DAY1.tells("rooms 1 1 1", 2);
        DAY1.tells("rooms 1 3 1", 2);
        DAY1.tells("rooms 2 59 1", 1);
        DAY1.tells("rooms 2 57 1", 0);
        DAY1.tells("rooms 3 59 1", 1);
        DAY1.tells("rooms 0 1 1", 0);
    }

    private static void roomsOpen() {
        Stand three = Stand.with("room 0 0 0 0 10; room 1 0 0 0 60; room 2 0 0 0 60; shut 1 5 6 1;"
            + "promise 1 1 4 6 -1; promise 1 1 4 6 -1");
        three.tells("rooms 0 4 0", 3);
        three.tells("rooms 0 5 0", 2);
        three.tells("rooms 0 6 0", 3);
        three.tells("rooms 0 9 0", 3);
        three.tells("rooms 0 10 0", 2);
        three.and("close 2").tells("rooms 0 10 0", 1);
        three.tells("rooms 0 3 1", 0);
        three.tells("rooms 0 4 1", 2);
        three.tells("rooms 0 5 1", 2);
        three.tells("rooms 0 6 1", 0);
        three.and("close 2").tells("rooms 0 5 1", 1);
        Stand dorm = Stand.with("room 0 3 0 6 60; room 1 3 0 2 60; room 2 0 0 0 60;" + "promise 0 1 0 1 -1;".repeat(8));
        dorm.tells("rooms 3 0 0", 8);
        dorm.tells("rooms 3 0 1", 8);
        dorm.and("cancel 7").tells("rooms 3 0 1", 7);
        dorm.tells("rooms 0 0 0", 1);
        // a night that is over: only rooms that are open in it, by the calendar as it is
        Stand over = Stand.with("room 0 1 0 0 60; room 1 1 0 0 60; door 0; promise 4 1 0 2 -1; come 0; next");
        over.tells("rooms 1 0 1", 2);
        over.and("shut 1 0 1 1").tells("rooms 1 0 0", 1);
        over.and("shut 1 0 1 1").tells("rooms 1 0 1", 1);
        over.and("shut 0 0 1 1").tells("rooms 1 0 1", 1);
        over.and("close 0; close 1").tells("rooms 1 0 1", 0);
    }
}
