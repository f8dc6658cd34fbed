/** Promises 18 to 22: the plan and what is asked of it. */
public final class PlanTest {
    public static void main(String[] args) {
        orderOfSpots();
        whoSuitsWhere();
        keptFirst();
        nobodyMovesWithoutNeed();
        aMoveThatIsNeeded();
        aMoveFromTheNightThatWas();
        suites();
        beds();
        spotWrong();
        floors();
        lacks();
        rooms();
        roomsOfThePast();
        plannedAnew();
        theLastNight();
        spotOfThePast();
        Check.end();
    }

    private static void orderOfSpots() {
        GuestHouse x = new GuestHouse();
        x.room(3, 0, 0, 0, 60);
        x.room(1, 2, 0, 0, 60);
        x.room(2, 1, 0, 0, 60);
        x.promise(1, 1, 0, 1, -1);
        Check.due("the first place", x.spot(0, 0), 32);
        x.promise(3, 1, 0, 1, -1);
        Check.due("the Ground is left to who wants it", x.spot(1, 0), 32);
        Check.due("the next in order, not the smallest", x.spot(0, 0), 64);
        x.promise(2, 1, 0, 1, -1);
        Check.due("the Double is left too", x.spot(2, 0), 64);
        Check.due("the Single", x.spot(0, 0), 96);
        x = new GuestHouse();
        x.room(0, 2, 0, 0, 60);
        x.room(1, 2, 0, 0, 60);
        x.room(2, 0, 0, 0, 60);
        x.room(3, 0, 0, 0, 60);
        x.promise(1, 1, 0, 1, -1);
        x.promise(1, 1, 0, 1, -1);
        x.promise(3, 1, 0, 1, -1);
        x.promise(2, 1, 0, 1, -1);
        Check.due("two Grounds are needed", x.spot(0, 0), 64);
        Check.due("for others", x.spot(1, 0), 96);
        Check.due("the ground's", x.spot(2, 0), 0);
        Check.due("the double's", x.spot(3, 0), 32);
    }

    private static void whoSuitsWhere() {
        int[][] fits = {{3}, {0, 1, 2}, {1, 2}, {2}, {}};
        for (int want = 0; want < 5; want++) {
            for (int kind = 0; kind < 4; kind++) {
                GuestHouse x = new GuestHouse();
                x.room(0, kind, 0, 2, 60);
                boolean suits = false;
                for (int k : fits[want]) {
                    suits |= k == kind;
                }
                Check.due("want " + want + " in kind " + kind, x.can(want, 1, 0, 1), suits ? 0 : 3);
            }
        }
    }

    private static void keptFirst() {
        GuestHouse x = new GuestHouse();
        x.room(0, 1, 0, 0, 60);
        x.room(1, 1, 0, 0, 60);
        x.door(0);
        x.over(3);
        x.promise(2, 1, 0, 1, 0); // held
        x.promise(4, 1, 0, 1, -1); // firm
        x.promise(2, 1, 0, 1, -1); // firm
        Check.due("the firm suite is kept first", x.spot(1, 0), 1);
        Check.due("not the held one", x.spot(0, 0), -1);
        Check.due("nor the other firm one", x.spot(2, 0), -1);
        Check.due("though leaving it out alone would do", x.lacks(0), 1);
        x.come(2);
        Check.due("who came is kept first", x.spot(2, 0), 32);
        Check.due("not the suite then", x.spot(1, 0), -1);
        Check.due("but the held one", x.spot(0, 0), 0);
    }

    private static void nobodyMovesWithoutNeed() {
        GuestHouse x = new GuestHouse();
        x.room(0, 0, 0, 0, 60);
        x.room(1, 0, 0, 0, 60);
        x.room(2, 0, 0, 0, 60);
        x.promise(1, 1, 1, 4, -1);
        x.promise(1, 1, 0, 2, -1);
        x.promise(1, 1, 0, 3, -1);
        Check.due("first in night 0", x.spot(1, 0), 0);
        Check.due("second in night 0", x.spot(2, 0), 32);
        Check.due("it stays, a lesser number comes", x.spot(1, 1), 0);
        Check.due("so does this", x.spot(2, 1), 32);
        Check.due("who comes has what is left", x.spot(0, 1), 64);
        Check.due("it stays, though the first is free again", x.spot(0, 2), 64);
        Check.due("moves", x.moves(), 0);
    }

    private static void aMoveThatIsNeeded() {
        GuestHouse x = new GuestHouse();
        x.room(0, 2, 1, 0, 60);
        x.room(1, 1, 2, 0, 60);
        x.promise(2, 1, 0, 4, -1);
        x.promise(3, 1, 1, 3, -1);
        Check.due("the Ground, as long as nobody needs it", x.spot(0, 0), 0);
        Check.due("then the Double", x.spot(0, 1), 32);
        Check.due("and it stays there", x.spot(0, 3), 32);
        Check.due("one move", x.moves(), 1);
        x.shut(1, 2, 3, true);
        Check.due("no spot in night 2", x.spot(1, 2), -1);
        Check.due("back to the Ground", x.spot(0, 2), 0);
        Check.due("and it stays", x.spot(0, 3), 0);
        Check.due("two moves", x.moves(), 2);
        // a night without a spot lies between: not a move
        x = new GuestHouse();
        x.room(0, 0, 0, 0, 60);
        x.room(1, 0, 0, 0, 60);
        x.shut(1, 0, 2, true);
        x.promise(1, 1, 0, 3, -1);
        x.shut(0, 1, 60, true);
        Check.due("night 0", x.spot(0, 0), 0);
        Check.due("night 1", x.spot(0, 1), -1);
        Check.due("night 2", x.spot(0, 2), 32);
        Check.due("no move", x.moves(), 0);
    }

    private static void aMoveFromTheNightThatWas() {
        GuestHouse x = new GuestHouse();
        x.room(0, 0, 0, 0, 60);
        x.room(1, 0, 0, 0, 60);
        x.promise(1, 1, 0, 3, -1);
        x.come(0);
        x.next();
        x.shut(0, 1, 2, true);
        Check.due("from the night that was to this one", x.moves(), 1);
        Check.promised(x, 0, 8, 0);
        x.next();
        Check.promised(x, 0, 7, 2);
        Check.promised(x, 0, 8, 1);
        Check.due("it stays now", x.spot(0, 2), 32);
        Check.due("moves from the day on", x.moves(), 0);
        x.room(2, 1, 0, 0, 60);
        Check.due("what was is not planned anew", x.spot(0, 0), 0);
        x.close(0);
        Check.due("even if it is closed", x.spot(0, 0), 0);
        x.next();
        Check.promised(x, 0, 0, 3);
        Check.promised(x, 0, 7, 3);
        Check.promised(x, 0, 8, 1);
    }

    private static void suites() {
        GuestHouse x = new GuestHouse();
        x.room(0, 1, 0, 0, 60);
        x.room(1, 1, 0, 0, 60);
        x.room(2, 1, 0, 0, 60);
        x.room(3, 1, 0, 0, 60);
        x.door(0);
        x.door(2);
        x.promise(2, 1, 0, 3, -1);
        x.promise(4, 4, 0, 2, -1);
        Check.due("a double has the first", x.spot(0, 0), 0);
        Check.due("the suite begins behind it", x.spot(1, 0), 65);
        x.promise(4, 4, 1, 3, -1);
        Check.due("two suites: no double is left", x.count(4), 2);
        x.promise(2, 1, 0, 2, -1);
        Check.due("the other half", x.spot(2, 0), 32);
        x.shut(2, 1, 2, true);
        Check.due("half of it is shut: the other suite", x.spot(1, 1), 1);
        Check.due("who was there moves", x.spot(0, 1), 96);
        Check.due("for who comes behind them there is no room", x.spot(2, 1), -1);
        x.shut(1, 1, 2, true);
        Check.due("half of each is shut", x.spot(1, 1), -1);
        Check.due("who was there stays", x.spot(0, 1), 0);
        x.shut(1, 1, 2, false);
        x.shut(2, 1, 2, false);
        x.shut(3, 1, 2, true);
        Check.due("its other half is shut", x.spot(1, 1), 1);
        x.shut(3, 1, 2, false);
        Check.due("the suite again", x.spot(1, 1), 65);
        // a double goes where it spoils no suite
        x = new GuestHouse();
        x.room(0, 1, 0, 0, 60);
        x.room(1, 1, 0, 0, 60);
        x.room(2, 1, 0, 0, 60);
        x.promise(2, 1, 0, 1, -1);
        x.door(0);
        x.promise(4, 1, 0, 1, -1);
        Check.due("out of the suite", x.spot(0, 0), 64);
        Check.due("suite", x.spot(1, 0), 1);
    }

    private static void beds() {
        GuestHouse x = new GuestHouse();
        x.room(15, 3, 0, 6, 60);
        x.room(2, 3, 0, 2, 1);
        for (int q = 0; q < 6; q++) {
            x.promise(0, 1, 0, 2, -1);
        }
        int[] due = {64, 68, 480, 484, 488, 492};
        for (int q = 0; q < 6; q++) {
            Check.due("bed of " + q, x.spot(q, 0), due[q]);
        }
        Check.due("who stays has it again", x.spot(2, 1), 480);
        Check.due("who must move has the first that is free", x.spot(0, 1), 496);
        Check.due("and the next", x.spot(1, 1), 500);
        Check.due("two moves", x.moves(), 2);
    }

    private static void spotWrong() {
        GuestHouse x = new GuestHouse();
        x.room(0, 0, 0, 0, 60);
        x.promise(1, 1, 1, 3, -1);
        Check.due("ahead of from", x.spot(0, 0), -1);
        Check.due("from", x.spot(0, 1), 0);
        Check.due("ahead of to", x.spot(0, 2), 0);
        Check.due("to", x.spot(0, 3), -1);
        Check.due("night -1", x.spot(0, -1), -1);
        Check.due("night 60", x.spot(0, 60), -1);
        Check.due("no such promise", x.spot(1, 1), -1);
        Check.due("no such promise", x.spot(-1, 1), -1);
    }

    private static void floors() {
        GuestHouse x = new GuestHouse();
        x.room(0, 1, 0, 0, 60);
        x.room(1, 1, 0, 0, 60);
        x.room(2, 0, 9, 0, 60);
        x.room(3, 0, 9, 0, 60);
        x.room(4, 0, 5, 0, 60);
        x.door(0);
        x.promise(4, 1, 0, 2, -1);
        x.promise(1, 1, 0, 2, -1);
        x.promise(1, 1, 0, 2, -1);
        x.promise(1, 1, 1, 2, -1);
        Check.due("a suite is on one", x.floors(0, 0, 0), 1);
        Check.due("two on one", x.floors(1, 2, 0), 1);
        Check.due("0 to 2", x.floors(0, 2, 0), 2);
        Check.due("who is not there yet", x.floors(3, 3, 0), 0);
        Check.due("all", x.floors(0, 3, 1), 3);
        Check.due("wide", x.floors(Integer.MIN_VALUE, Integer.MAX_VALUE, 1), 3);
        Check.due("b ahead of a", x.floors(2, 1, 1), 0);
        Check.due("none such", x.floors(4, 9, 1), 0);
        Check.due("night -1", x.floors(0, 3, -1), 0);
        Check.due("night 60", x.floors(0, 3, 60), 0);
        x.come(0);
        x.come(1);
        x.come(2);
        x.next();
        Check.due("as it was", x.floors(0, 3, 0), 2);
    }

    private static void lacks() {
        GuestHouse x = new GuestHouse();
        x.room(0, 0, 0, 0, 60);
        x.room(1, 1, 0, 0, 60);
        x.room(2, 2, 0, 0, 60);
        x.room(3, 3, 0, 2, 60);
        x.over(40);
        x.promise(3, 1, 0, 1, -1);
        Check.due("ground", x.lacks(0), 0);
        x.promise(3, 1, 0, 1, 0);
        Check.due("second ground", x.lacks(0), 1);
        x.promise(2, 1, 0, 1, 0);
        Check.due("double", x.lacks(0), 1);
        x.promise(2, 1, 0, 1, 0);
        Check.due("second double", x.lacks(0), 2);
        x.promise(1, 1, 0, 1, 0);
        Check.due("single", x.lacks(0), 2);
        x.promise(1, 1, 0, 1, 0);
        Check.due("second single", x.lacks(0), 3);
        x.promise(4, 1, 0, 1, 0);
        Check.due("a suite without a door", x.lacks(0), 4);
        for (int k = 0; k < 3; k++) {
            x.promise(0, 1, 0, 1, 0);
        }
        Check.due("a third bed", x.lacks(0), 5);
        x.cancel(1);
        Check.due("who is cancelled does not count", x.lacks(0), 4);
        Check.due("another night", x.lacks(1), 0);
        Check.due("night -1", x.lacks(-1), -1);
        Check.due("night 59", x.lacks(59), 0);
        Check.due("night 60", x.lacks(60), -1);
        x.next();
        Check.due("ahead of the day", x.lacks(0), -1);
        Check.due("the day", x.lacks(1), 0);
    }

    private static void rooms() {
        GuestHouse x = new GuestHouse();
        x.room(0, 1, 0, 0, 60);
        x.room(1, 1, 0, 0, 60);
        x.room(2, 1, 0, 0, 60);
        x.room(3, 3, 0, 6, 60);
        x.room(4, 3, 0, 3, 5);
        x.room(5, 0, 0, 0, 60);
        x.door(0);
        x.promise(4, 1, 0, 2, -1);
        x.promise(0, 1, 0, 2, -1);
        x.promise(1, 1, 0, 2, -1);
        Check.due("Doubles", x.rooms(1, 0, 0), 3);
        Check.due("a suite is two, and the single's", x.rooms(1, 0, 1), 3);
        Check.due("beds", x.rooms(3, 0, 0), 9);
        Check.due("beds later", x.rooms(3, 5, 0), 6);
        Check.due("beds had", x.rooms(3, 0, 1), 1);
        Check.due("Singles", x.rooms(0, 0, 0), 1);
        Check.due("Singles had", x.rooms(0, 0, 1), 0);
        Check.due("Grounds", x.rooms(2, 0, 0), 0);
        x.shut(2, 0, 1, true);
        Check.due("Doubles but one", x.rooms(1, 0, 0), 2);
        Check.due("Singles had", x.rooms(0, 0, 1), 1);
        Check.due("nobody", x.rooms(1, 2, 1), 0);
        Check.due("kind -1", x.rooms(-1, 0, 0), -1);
        Check.due("kind 4", x.rooms(4, 0, 0), -1);
        Check.due("night -1", x.rooms(0, -1, 0), -1);
        Check.due("night 60", x.rooms(0, 60, 0), -1);
        Check.due("what -1", x.rooms(0, 0, -1), -1);
        Check.due("what 2", x.rooms(0, 0, 2), -1);
    }

    /** Each change is asked behind an answer of the plan ahead of it. */
    private static void plannedAnew() {
        GuestHouse x = new GuestHouse();
        x.room(0, 1, 0, 0, 60);
        x.room(1, 1, 0, 0, 60);
        x.over(5);
        x.promise(4, 1, 0, 3, -1);
        Check.due("no door", x.spot(0, 2), -1);
        x.door(0);
        Check.due("night 0 with a door", x.spot(0, 0), 1);
        Check.due("night 2 with a door", x.spot(0, 2), 1);
        x.close(1);
        Check.due("closed", x.spot(0, 0), -1);
        x.open(1, 60);
        Check.due("night 0, opened", x.spot(0, 0), 1);
        Check.due("night 2, opened", x.spot(0, 2), 1);
        x.close(0);
        Check.due("night 0, closed", x.spot(0, 0), -1);
        x.open(0, 60);
        x.promise(2, 1, 5, 6, -1);
        Check.due("night 5", x.spot(1, 5), 0);
        x.change(1, 4, 5);
        Check.due("changed to an earlier night", x.spot(1, 4), 0);
        Check.due("and not there any more", x.spot(1, 5), -1);
        x.change(1, 5, 6);
        Check.due("changed to a later night", x.spot(1, 5), 0);
        Check.due("and not there any more", x.spot(1, 4), -1);
        x.cancel(1);
        Check.due("cancelled", x.spot(1, 5), -1);
        x.promise(2, 1, 7, 9, -1);
        Check.due("night 8", x.spot(2, 8), 0);
        x.shut(0, 8, 9, true);
        Check.due("night 7 stays", x.spot(2, 7), 0);
        Check.due("night 8 is shut", x.spot(2, 8), 32);
        Check.due("a move", x.moves(), 1);
        x.next();
        Check.due("who missed", x.spot(0, 1), -1);
    }

    private static void theLastNight() {
        GuestHouse x = new GuestHouse();
        x.room(0, 0, 0, 0, 59);
        x.room(1, 0, 0, 0, 60);
        x.promise(1, 1, 58, 60, -1);
        Check.due("a move from 58 to 59", x.moves(), 1);
        Check.due("night 59", x.spot(0, 59), 32);
    }

    private static void spotOfThePast() {
        GuestHouse x = new GuestHouse();
        x.room(0, 0, 0, 0, 60);
        x.next();
        x.next();
        x.promise(1, 1, 2, 4, -1);
        Check.due("ahead of its time", x.spot(0, 0), -1);
        Check.due("ahead of its time", x.spot(0, 1), -1);
        x.come(0);
        x.next();
        Check.promised(x, 0, 7, 1);
        Check.promised(x, 0, 8, 0);
    }

    private static void roomsOfThePast() {
        GuestHouse x = new GuestHouse();
        x.room(0, 1, 0, 0, 60);
        x.room(1, 1, 0, 0, 60);
        x.door(0);
        x.promise(4, 1, 0, 2, -1);
        x.come(0);
        x.next();
        Check.due("both had somebody", x.rooms(1, 0, 1), 2);
        x.shut(1, 0, 1, true);
        Check.due("one is not open", x.rooms(1, 0, 0), 1);
        Check.due("of those that are open", x.rooms(1, 0, 1), 1);
    }
}
