/** Promises 10 to 17: wishes, promises, and the end of a day. */
public final class BookTest {
    public static void main(String[] args) {
        canAsTold();
        canAllowed();
        canOver();
        canFull();
        promise();
        firm();
        cancel();
        change();
        changeLeavesItselfOut();
        come();
        nextEndsADay();
        nextWalks();
        nextAtTheLastDay();
        promised();
        Check.end();
    }

    private static GuestHouse withRooms() {
        GuestHouse x = new GuestHouse();
        x.room(0, 0, 0, 0, 60);
        x.room(1, 1, 0, 0, 60);
        x.room(2, 1, 0, 0, 60);
        x.room(3, 2, 0, 0, 60);
        x.room(4, 3, 0, 2, 60);
        x.door(1);
        return x;
    }

    private static void canAsTold() {
        GuestHouse x = withRooms();
        int[] most = {1, 1, 2, 2, 4};
        for (int want = 0; want < 5; want++) {
            Check.due("nobody", x.can(want, 0, 0, 1), 1);
            Check.due("one", x.can(want, 1, 0, 1), 0);
            Check.due("as many as may", x.can(want, most[want], 0, 60), 0);
            Check.due("one too many", x.can(want, most[want] + 1, 0, 1), 1);
        }
        Check.due("want -1", x.can(-1, 1, 0, 1), 1);
        Check.due("want 5", x.can(5, 1, 0, 1), 1);
        Check.due("from -1", x.can(0, 1, -1, 1), 1);
        Check.due("no night", x.can(0, 1, 3, 3), 1);
        Check.due("to 61", x.can(0, 1, 3, 61), 1);
        x.next();
        x.next();
        Check.due("from below the day", x.can(0, 1, 1, 4), 1);
        Check.due("from the day on", x.can(0, 1, 2, 4), 0);
    }

    private static void canAllowed() {
        GuestHouse x = new GuestHouse();
        x.rule(2, 4, 0);
        Check.due("1 comes ahead of 2", x.can(0, 2, 3, 5), 1);
        Check.due("2 comes ahead of 3", x.can(0, 1, 3, 5), 2);
        Check.due("with the next night", x.can(0, 1, 3, 6), 3);
        Check.due("it does not want that night", x.can(0, 1, 5, 6), 3);
        Check.due("nor that one", x.can(0, 1, 3, 4), 3);
        x.drop(0);
        Check.due("the rule holds no more", x.can(0, 1, 3, 5), 3);
    }

    private static void canOver() {
        GuestHouse x = withRooms();
        Check.due("suite", x.promise(4, 3, 0, 2, -1), 0);
        Check.due("a double besides: the Ground", x.can(2, 1, 0, 2), 0);
        Check.due("double", x.promise(2, 1, 1, 3, 0), 1);
        Check.due("a ground: none is left", x.can(3, 1, 1, 2), 3);
        Check.due("a single is left", x.promise(1, 1, 0, 3, -1), 2);
        Check.due("no second single", x.can(1, 1, 1, 2), 3);
        Check.due("one of its nights is enough to refuse", x.can(1, 1, 1, 9), 3);
        Check.due("no second suite", x.can(4, 1, 1, 2), 3);
        Check.due("beds are apart", x.can(0, 1, 1, 2), 0);
        x.over(1);
        Check.due("one over", x.can(1, 1, 1, 2), 0);
        Check.due("one over: double", x.promise(2, 1, 1, 2, -1), 3);
        Check.due("the suite alone is left out", x.promise(2, 1, 1, 2, -1), 4);
        Check.due("not two over", x.can(2, 1, 1, 2), 3);
        // leaving the suite out makes room for both doubles, so that this one is not a second left out
        x = new GuestHouse();
        x.room(0, 1, 0, 0, 60);
        x.room(1, 1, 0, 0, 60);
        x.door(0);
        x.over(1);
        Check.due("suite", x.promise(4, 1, 0, 1, -1), 0);
        Check.due("double", x.promise(2, 1, 0, 1, -1), 1);
        Check.due("second double", x.promise(2, 1, 0, 1, -1), 2);
        Check.due("third double", x.can(2, 1, 0, 1), 3);
        // a house that is short already refuses even what would find a spot
        x = withRooms();
        x.promise(3, 1, 0, 1, -1);
        x.close(3);
        Check.due("short", x.lacks(0), 1);
        Check.due("a bed", x.can(0, 1, 0, 1), 3);
    }

    private static void canFull() {
        GuestHouse x = withRooms();
        for (int q = 0; q < 40; q++) {
            Check.due("promise", x.promise(0, 1, q, q + 1, -1), q);
        }
        x.cancel(0);
        x.rule(2, 58, 0);
        Check.due("40 promises, cancelled ones too", x.can(0, 1, 0, 1), 4);
        Check.due("not made", x.promise(0, 1, 0, 1, -9), -5);
        Check.due("1 comes ahead", x.can(0, 2, 0, 1), 1);
        Check.due("2 comes ahead", x.can(0, 1, 58, 59), 2);
        Check.due("change is not kept from it", x.change(1, 50, 51), 0);
        x.close(4);
        Check.due("3 comes ahead", x.can(0, 1, 0, 1), 3);
        Check.due("count(4)", x.count(4), 40);
    }

    private static void promise() {
        GuestHouse x = withRooms();
        x.price(0, 0, 60, 7);
        x.next();
        Check.due("firm", x.promise(0, 1, 3, 5, -1), 0);
        Check.due("held till the day", x.promise(0, 1, 3, 5, 1), 1);
        Check.due("till below the day", x.promise(0, 1, 5, 6, 0), -6);
        Check.due("till below NONE", x.promise(0, 1, 5, 6, -2), -6);
        Check.due("3 comes ahead of 5", x.promise(0, 1, 3, 5, 0), -4);
        Check.due("1", x.promise(0, 1, 0, 5, -1), -2);
        Check.due("held for very long", x.promise(0, 1, 5, 6, Integer.MAX_VALUE), 2);
        x.rule(2, 9, 0);
        Check.due("2", x.promise(0, 1, 9, 10, -1), -3);
        Check.due("count(4)", x.count(4), 3);
        Check.due("count(5)", x.count(5), 3);
        Check.promised(x, 0, 0, 1);
        Check.promised(x, 1, 0, 0);
        Check.promised(x, 0, 6, 14);
        Check.promised(x, 2, 5, Integer.MAX_VALUE);
    }

    private static void firm() {
        GuestHouse x = withRooms();
        x.promise(0, 1, 2, 4, 0);
        x.promise(0, 1, 2, 4, -1);
        x.promise(1, 1, 2, 4, 0);
        Check.yes("held", x.firm(0));
        Check.no("firm already", x.firm(0));
        Check.no("made firm", x.firm(1));
        Check.no("none such", x.firm(3));
        Check.no("none such", x.firm(-1));
        x.next();
        Check.promised(x, 0, 0, 1);
        Check.promised(x, 0, 5, 0);
        Check.promised(x, 2, 0, 5);
        Check.no("fallen", x.firm(2));
        // firm ones are kept ahead of held ones
        x = new GuestHouse();
        x.room(0, 0, 0, 0, 60);
        x.over(1);
        x.promise(1, 1, 0, 1, 5);
        x.promise(1, 1, 0, 1, 5);
        Check.due("both held: the first", x.spot(0, 0), 0);
        x.firm(1);
        Check.due("firm ahead of held", x.spot(0, 0), -1);
        Check.due("firm ahead of held", x.spot(1, 0), 0);
    }

    private static void cancel() {
        GuestHouse x = withRooms();
        x.promise(3, 1, 0, 4, 0);
        Check.due("the Ground is promised", x.can(3, 1, 2, 3), 3);
        Check.yes("held", x.cancel(0));
        Check.promised(x, 0, 0, 4);
        Check.due("the Ground is free", x.can(3, 1, 2, 3), 0);
        Check.due("no spot", x.spot(0, 0), -1);
        Check.no("cancelled already", x.cancel(0));
        x.promise(3, 1, 0, 4, -1);
        Check.yes("firm", x.cancel(1));
        x.promise(3, 1, 0, 4, -1);
        x.come(2);
        Check.no("come", x.cancel(2));
        Check.no("none such", x.cancel(3));
        Check.no("none such", x.cancel(-1));
        Check.due("count(5)", x.count(5), 1);
    }

    private static void change() {
        GuestHouse x = withRooms();
        x.price(0, 0, 60, 10);
        x.promise(0, 1, 1, 3, -1);
        x.price(0, 0, 60, 20);
        Check.promised(x, 0, 6, 20);
        Check.due("other nights", x.change(0, 2, 5), 0);
        Check.promised(x, 0, 3, 2);
        Check.promised(x, 0, 4, 5);
        Check.promised(x, 0, 6, 60);
        Check.due("it has a spot where it is now", x.spot(0, 4), 128);
        Check.due("and none where it was", x.spot(0, 1), -1);
        x.rule(2, 7, 0);
        Check.due("not as told", x.change(0, 5, 5), 1);
        Check.due("not as told", x.change(0, -1, 5), 1);
        Check.due("not as told", x.change(0, 5, 61), 1);
        Check.due("not allowed", x.change(0, 5, 8), 2);
        x.close(4);
        Check.due("over", x.change(0, 5, 7), 3);
        Check.promised(x, 0, 3, 2);
        Check.promised(x, 0, 4, 5);
        Check.promised(x, 0, 6, 60);
        Check.due("none such", x.change(1, 0, 1), 6);
        Check.due("none such", x.change(-1, 0, 1), 6);
        x.cancel(0);
        Check.due("cancelled; 6 comes first", x.change(0, 5, 5), 6);
        x.promise(1, 1, 0, 2, 3);
        Check.due("held", x.change(1, 0, 3), 0);
        Check.promised(x, 1, 5, 3);
        x.come(1);
        Check.due("come", x.change(1, 0, 4), 6);
    }

    private static void changeLeavesItselfOut() {
        GuestHouse x = new GuestHouse();
        x.room(0, 0, 0, 0, 60);
        x.promise(1, 1, 1, 3, -1);
        Check.due("over its own nights", x.change(0, 2, 4), 0);
        x.promise(1, 1, 4, 5, -1);
        Check.due("over another's night", x.change(0, 2, 5), 3);
        Check.due("the other over its own", x.change(1, 4, 9), 0);
    }

    private static void come() {
        GuestHouse x = withRooms();
        x.promise(0, 1, 0, 2, -1);
        x.promise(0, 1, 0, 2, 0);
        x.promise(1, 1, 1, 2, -1);
        x.promise(2, 1, 0, 2, -1);
        x.cancel(3);
        Check.yes("firm", x.come(0));
        Check.yes("held", x.come(1));
        Check.no("come already", x.come(0));
        Check.no("its from is later", x.come(2));
        Check.no("cancelled", x.come(3));
        Check.no("none such", x.come(4));
        Check.no("none such", x.come(-1));
        Check.promised(x, 0, 0, 2);
        Check.promised(x, 1, 0, 2);
        x.next();
        Check.yes("now it is the day", x.come(2));
        Check.due("count(5)", x.count(5), 3);
        // who has come is kept ahead of firm ones with a lesser number
        x = new GuestHouse();
        x.room(0, 0, 0, 0, 60);
        x.over(1);
        x.promise(1, 1, 0, 2, -1);
        x.promise(1, 1, 0, 2, -1);
        Check.due("the first", x.spot(0, 1), 0);
        x.come(1);
        Check.due("who has come", x.spot(1, 1), 0);
        Check.due("who has not", x.spot(0, 1), -1);
    }

    private static void nextEndsADay() {
        GuestHouse x = withRooms();
        x.over(9);
        x.promise(0, 1, 0, 1, -1); // comes, goes
        x.promise(0, 1, 0, 2, -1); // comes, stays
        x.promise(1, 1, 0, 3, -1); // firm, missed
        x.promise(2, 1, 0, 3, 0); // held, missed, not fallen
        x.promise(2, 1, 1, 3, 0); // held till 0, falls
        x.promise(2, 1, 1, 3, 1); // held till 1
        x.promise(3, 1, 1, 3, -1); // firm
        x.promise(0, 1, 2, 3, 0);
        x.cancel(7);
        x.come(0);
        x.come(1);
        Check.due("next", x.next(), 0);
        Check.due("day", x.count(0), 1);
        int[] due = {3, 2, 6, 6, 5, 0, 1, 4};
        for (int q = 0; q < due.length; q++) {
            Check.promised(x, q, 0, due[q]);
        }
        Check.due("those that stand", x.count(5), 3);
        Check.due("who missed has no spot later", x.spot(2, 1), -1);
        Check.due("next", x.next(), 0);
        Check.promised(x, 1, 0, 3);
        Check.promised(x, 5, 0, 6);
        Check.promised(x, 6, 0, 6);
        Check.due("all are gone", x.count(5), 0);
    }

    private static void nextWalks() {
        GuestHouse x = new GuestHouse();
        x.room(0, 0, 0, 0, 60);
        x.room(1, 0, 0, 0, 60);
        x.over(2);
        for (int q = 0; q < 4; q++) {
            x.promise(1, 1, 0, 3, -1);
        }
        x.come(1);
        x.come(2);
        x.come(3);
        Check.due("two rooms, three who came", x.next(), 1);
        Check.promised(x, 0, 0, 6);
        Check.promised(x, 3, 0, 7);
        Check.promised(x, 3, 7, 0);
        Check.due("had", x.spot(1, 0), 0);
        Check.due("had", x.spot(2, 0), 32);
        Check.due("had none", x.spot(3, 0), -1);
        x.close(0);
        Check.due("the first keeps, though it must move", x.next(), 1);
        Check.promised(x, 1, 0, 2);
        Check.promised(x, 1, 8, 1);
        Check.promised(x, 2, 0, 7);
        Check.promised(x, 2, 7, 1);
        Check.due("what it had stays", x.spot(2, 0), 32);
        Check.due("last day", x.next(), 0);
        Check.promised(x, 1, 0, 3);
        Check.promised(x, 1, 7, 3);
        // walked on the last night of its stay: walked, not gone
        x = new GuestHouse();
        x.room(0, 0, 0, 0, 60);
        x.promise(1, 1, 0, 1, -1);
        x.come(0);
        x.close(0);
        Check.due("walked", x.next(), 1);
        Check.promised(x, 0, 0, 7);
        // those missed leave their spots: who came has the first spot, not what the plan gave ahead of that
        x = new GuestHouse();
        x.room(0, 0, 0, 0, 60);
        x.room(1, 0, 0, 0, 60);
        x.promise(1, 1, 0, 1, -1);
        x.promise(1, 1, 0, 1, -1);
        x.come(1);
        Check.due("planned", x.spot(1, 0), 32);
        Check.due("next", x.next(), 0);
        Check.due("had", x.spot(1, 0), 0);
    }

    private static void nextAtTheLastDay() {
        GuestHouse x = withRooms();
        x.promise(0, 1, 59, 60, -1);
        for (int d = 0; d < 59; d++) {
            Check.due("next", x.next(), 0);
        }
        Check.due("day", x.count(0), 59);
        Check.due("no day behind it", x.next(), -1);
        Check.due("day", x.count(0), 59);
        Check.promised(x, 0, 0, 1);
        Check.yes("the last night", x.come(0));
        Check.due("no day behind it", x.next(), -1);
        Check.promised(x, 0, 0, 2);
        Check.due("can", x.can(0, 1, 59, 60), 0);
        Check.due("spot", x.spot(0, 59), 128);
    }

    private static void promised() {
        GuestHouse x = withRooms();
        x.price(4, 0, 60, 1000000);
        x.promise(4, 3, 2, 60, 1);
        long[] due = {0, 4, 3, 2, 60, 1, 58000000L, 0, 0};
        for (int what = 0; what < due.length; what++) {
            Check.promised(x, 0, what, due[what]);
        }
        x.firm(0);
        Check.promised(x, 0, 0, 1);
        Check.promised(x, 0, 5, 1);
        Check.notPromised(x, 0, 9);
        Check.notPromised(x, 0, -1);
        Check.notPromised(x, 1, 0);
        Check.notPromised(x, -1, 0);
        Check.notPromised(x, 40, 0);
        Check.notPromised(x, Integer.MAX_VALUE, 0);
        Check.due("nothing came of it", x.count(4), 1);
    }
}
