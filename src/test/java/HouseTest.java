/** Promises 1 to 9: the places, their rooms and calendars. */
public final class HouseTest {
    public static void main(String[] args) {
        newObject();
        room();
        store();
        door();
        shut();
        open();
        close();
        look();
        night();
        Check.end();
    }

    private static void newObject() {
        GuestHouse x = new GuestHouse();
        for (int what = 0; what <= 7; what++) {
            Check.due("new: count(" + what + ")", x.count(what), 0);
        }
        for (int p = 0; p < 16; p++) {
            Check.due("new: look(" + p + ", 0)", x.look(p, 0), -1);
        }
        Check.due("new: moves()", x.moves(), 0);
        Check.due("new: lacks(0)", x.lacks(0), 0);
        Check.due("new: cost(0, 0, 60)", x.cost(0, 0, 60), 0);
        Check.notPromised(x, 0, 0);
    }

    private static void room() {
        GuestHouse x = new GuestHouse();
        Check.yes("room at the first place", x.room(0, 0, 0, -7, 0));
        Check.yes("room at the last place", x.room(15, 3, 9, 6, 60));
        Check.yes("a Dorm of two", x.room(1, 3, 0, 2, 1));
        Check.no("a room is there", x.room(0, 1, 0, 0, 5));
        Check.no("place -1", x.room(-1, 0, 0, 0, 5));
        Check.no("place 16", x.room(16, 0, 0, 0, 5));
        Check.no("kind -1", x.room(2, -1, 0, 0, 5));
        Check.no("kind 4", x.room(2, 4, 0, 2, 5));
        Check.no("floor -1", x.room(2, 0, -1, 0, 5));
        Check.no("floor 10", x.room(2, 0, 10, 0, 5));
        Check.no("nights -1", x.room(2, 0, 0, 0, -1));
        Check.no("nights 61", x.room(2, 0, 0, 0, 61));
        Check.no("a Dorm of one", x.room(2, 3, 0, 1, 5));
        Check.no("a Dorm of seven", x.room(2, 3, 0, 7, 5));
        Check.yes("a store", x.store(3));
        Check.no("a store is there", x.room(3, 0, 0, 0, 5));
        Check.due("nothing came of the wrong ones", x.look(2, 0), -1);
        Check.due("count(1)", x.count(1), 3);
        Check.due("count(2)", x.count(2), 1);
        // a room that comes later is planned with: it comes first in order
        Check.yes("a Double", x.room(5, 1, 0, 0, 60));
        Check.due("promise", x.promise(2, 1, 0, 2, -1), 0);
        Check.due("spot of the only Double", x.spot(0, 0), 160);
        Check.yes("a Double ahead of it", x.room(4, 1, 0, 0, 60));
        Check.due("spot of the first Double", x.spot(0, 0), 128);
    }

    private static void store() {
        GuestHouse x = new GuestHouse();
        Check.yes("store(0)", x.store(0));
        Check.yes("store(15)", x.store(15));
        Check.no("store(0) again", x.store(0));
        Check.no("store(-1)", x.store(-1));
        Check.no("store(16)", x.store(16));
        Check.yes("room(1)", x.room(1, 0, 0, 0, 1));
        Check.no("store in a room", x.store(1));
        Check.due("count(2)", x.count(2), 2);
    }

    private static void door() {
        GuestHouse x = new GuestHouse();
        for (int p = 0; p < 4; p++) {
            x.room(p, 1, 3, 0, 60);
        }
        x.room(4, 1, 4, 0, 60);
        x.room(6, 1, 4, 0, 60);
        x.room(7, 2, 4, 0, 60);
        x.room(14, 1, 0, 0, 60);
        x.room(15, 1, 0, 0, 60);
        Check.yes("door(1)", x.door(1));
        Check.no("door(1) again", x.door(1));
        Check.no("the upper one has a door", x.door(0));
        Check.no("the lower one has a door", x.door(2));
        Check.no("another floor", x.door(3));
        Check.no("nothing beside it", x.door(4));
        Check.no("nothing there", x.door(5));
        Check.no("a Ground beside it", x.door(6));
        Check.no("a Ground there", x.door(7));
        Check.no("door(-1)", x.door(-1));
        Check.no("door(15)", x.door(15));
        Check.no("door(MAX)", x.door(Integer.MAX_VALUE));
        Check.no("door(MIN)", x.door(Integer.MIN_VALUE));
        Check.yes("door(14)", x.door(14));
        Check.due("count(3)", x.count(3), 2);
        Check.due("look(1, 3)", x.look(1, 3), 2);
        Check.due("look(2, 3)", x.look(2, 3), 1);
        Check.due("look(0, 3)", x.look(0, 3), -1);
    }

    private static void shut() {
        GuestHouse x = new GuestHouse();
        x.room(0, 0, 0, 0, 10);
        x.store(1);
        Check.due("shut 2 to 4", x.shut(0, 2, 5, true), 3);
        Check.due("what is shut stays", x.shut(0, 0, 5, true), 2);
        Check.due("opened again", x.shut(0, 1, 3, false), 2);
        Check.due("what is open stays", x.shut(0, 1, 3, false), 0);
        Check.due("night 0", x.night(0, 0), 0);
        Check.due("night 1", x.night(0, 1), 1);
        Check.due("night 3", x.night(0, 3), 0);
        Check.due("night 5", x.night(0, 5), 1);
        Check.due("only what the calendar has", x.shut(0, 9, 60, true), 1);
        Check.due("behind the calendar", x.shut(0, 10, 60, true), 0);
        Check.due("no night", x.shut(0, 60, 60, true), 0);
        Check.due("nights opened later are not shut", x.open(0, 5), 15);
        Check.due("night 12", x.night(0, 12), 1);
        Check.due("from below 0", x.shut(0, -1, 5, true), -1);
        Check.due("to below from", x.shut(0, 5, 4, true), -1);
        Check.due("to above 60", x.shut(0, 5, 61, true), -1);
        Check.due("a store", x.shut(1, 0, 1, true), -1);
        Check.due("nothing", x.shut(2, 0, 1, true), -1);
        Check.due("place -1", x.shut(-1, 0, 1, true), -1);
        Check.due("place 16", x.shut(16, 0, 1, true), -1);
        x.room(3, 0, 0, 0, 60);
        Check.due("all nights", x.shut(3, 0, 60, true), 60);
        Check.due("night 59", x.night(3, 59), 0);
        x.close(3);
        Check.due("closed", x.shut(3, 0, 1, true), -1);
    }

    private static void open() {
        GuestHouse x = new GuestHouse();
        x.room(0, 0, 0, 0, 10);
        x.store(1);
        x.shut(0, 3, 5, true);
        Check.due("none more", x.open(0, 0), 10);
        Check.due("too many", x.open(0, 51), -1);
        Check.due("below 0", x.open(0, -1), -1);
        Check.due("far too many", x.open(0, Integer.MAX_VALUE), -1);
        Check.due("nothing came of it", x.night(0, 10), -1);
        Check.due("two more", x.open(0, 2), 12);
        Check.due("shut nights stay", x.night(0, 3), 0);
        Check.due("up to 60", x.open(0, 48), 60);
        Check.due("one too many", x.open(0, 1), -1);
        Check.due("a store", x.open(1, 1), -1);
        Check.due("nothing", x.open(2, 1), -1);
        Check.due("place 16", x.open(16, 1), -1);
        x.close(0);
        Check.due("closed, too many", x.open(0, 61), -1);
        Check.due("it stays closed", x.night(0, 0), -2);
        Check.due("anew", x.open(0, 4), 4);
        Check.due("none is shut", x.night(0, 3), 1);
        Check.due("not opened yet", x.night(0, 4), -1);
        x.close(0);
        Check.due("anew with none", x.open(0, 0), 0);
        Check.due("not closed any more", x.night(0, 0), -1);
    }

    private static void close() {
        GuestHouse x = new GuestHouse();
        x.room(0, 0, 0, 0, 0);
        x.store(1);
        Check.yes("close(0)", x.close(0));
        Check.no("close(0) again", x.close(0));
        Check.no("a store", x.close(1));
        Check.no("nothing", x.close(2));
        Check.no("place -1", x.close(-1));
        Check.no("place 16", x.close(16));
        x.room(3, 1, 0, 0, 60);
        Check.due("promise", x.promise(2, 1, 0, 2, -1), 0);
        Check.due("spot", x.spot(0, 1), 96);
        Check.yes("close(3)", x.close(3));
        Check.due("no spot in a closed room", x.spot(0, 1), -1);
        Check.due("the room is still there", x.look(3, 0), 1);
        Check.due("count(1)", x.count(1), 2);
    }

    private static void look() {
        GuestHouse x = new GuestHouse();
        int[] beds = {1, 2, 2, 5};
        for (int kind = 0; kind < 4; kind++) {
            x.room(kind, kind, kind + 6, 5, 1);
            Check.due("kind", x.look(kind, 0), kind);
            Check.due("floor", x.look(kind, 1), kind + 6);
            Check.due("beds", x.look(kind, 2), beds[kind]);
            Check.due("door", x.look(kind, 3), -1);
            Check.due("another what", x.look(kind, 4), -1);
            Check.due("another what", x.look(kind, -1), -1);
        }
        x.store(4);
        Check.due("a store", x.look(4, 0), 4);
        Check.due("a store's floor", x.look(4, 1), -1);
        Check.due("a store's beds", x.look(4, 2), -1);
        Check.due("a store's door", x.look(4, 3), -1);
        Check.due("nothing", x.look(5, 0), -1);
        Check.due("nothing's beds", x.look(5, 2), -1);
        Check.due("place -1", x.look(-1, 0), -2);
        Check.due("place 16", x.look(16, 3), -2);
        Check.due("no such place comes first", x.look(16, 9), -2);
    }

    private static void night() {
        GuestHouse x = new GuestHouse();
        x.room(0, 0, 0, 0, 60);
        x.store(1);
        x.shut(0, 59, 60, true);
        Check.due("first", x.night(0, 0), 1);
        Check.due("last, shut", x.night(0, 59), 0);
        Check.due("night -1", x.night(0, -1), -4);
        Check.due("night 60", x.night(0, 60), -4);
        Check.due("no such night is asked first", x.night(99, 60), -4);
        Check.due("a store", x.night(1, 0), -3);
        Check.due("nothing", x.night(2, 0), -3);
        Check.due("no such place", x.night(16, 0), -3);
        x.close(0);
        Check.due("closed", x.night(0, 59), -2);
    }
}
