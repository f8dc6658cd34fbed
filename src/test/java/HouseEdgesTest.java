/** Promises 1 to 9 and section 1, boundary by boundary: just inside it, just outside it, and what a refusal leaves. */
public final class HouseEdgesTest {
    /** Places 8 and 10 to 15 have nothing; 5 has a store; 9 is closed; 6 has 30 nights, ten of them shut. */
    private static final Stand HOUSE = Stand.with(
        "room 0 0 1 0 60; room 1 1 2 0 60; room 2 1 2 0 60; room 3 2 0 0 60; room 4 3 9 3 60; store 5;"
        + "room 6 1 2 0 30; shut 6 10 20 1; room 7 1 3 0 60; room 9 0 0 0 10; close 9; door 1; over 1;"
        + "price 1 0 60 20; price 2 0 60 40; rule 0 3 -10; rule 1 5 -5; rule 2 8 0;"
        + "promise 2 2 0 4 -1; promise 4 4 1 3 -1; promise 1 1 0 6 3; promise 0 1 2 5 -1; promise 3 1 2 4 1; come 0");

    public static void main(String[] args) {
        newObject();
        roomPlaces();
        roomKindsAndFloors();
        roomBeds();
        roomNights();
        store();
        fullHouse();
        doorPlaces();
        doorKinds();
        doorOncePerDouble();
        shutNights();
        shutCalendar();
        shutWhere();
        openNights();
        openClosed();
        openWhere();
        close();
        look();
        night();
        theLastCall();
        Check.end();
    }

    private static void newObject() {
        Stand made = Stand.with("");
        for (int what = 0; what < 8; what++) {
            made.tells("count " + what, 0);
        }
        made.tells("look 0 0", -1);
        made.tells("look 15 0", -1);
        made.tells("night 0 0", -3);
        made.tells("night 15 59", -3);
        made.tells("moves", 0);
        made.tells("lacks 0", 0);
        made.tells("rooms 0 0 0", 0);
        made.tells("floors 0 39 0", 0);
        made.tells("spot 0 0", -1);
        made.tells("least 4 0 60 0", 0);
        made.refuses("promised 0 0", Call.THROWN);
        made.refuses("promise 0 1 0 1 -1", -4);
        made.refuses("drop 0", 0);
        made.does("rule 0 1 1", 0);
        made.and("rule 0 1 1").tells("count 7", 1);
        made.and("room 0 0 0 0 1").does("promise 1 1 0 1 -1", 0);
    }

    private static void roomPlaces() {
        for (Stand stand : new Stand[] {Stand.with(""), HOUSE}) {
            stand.does("room 15 0 0 0 60", 1);
            stand.refuses("room 16 0 0 0 60", 0);
            stand.refuses("room -1 0 0 0 60", 0);
            stand.refuses("room MIN 0 0 0 60", 0);
            stand.refuses("room MAX 0 0 0 60", 0);
        }
        Stand.with("").does("room 0 0 0 0 60", 1);
        Stand.with("room 0 0 0 0 60").tells("count 1", 1);
        HOUSE.does("room 8 0 0 0 60", 1);
        HOUSE.refuses("room 0 0 1 0 60", 0);
        HOUSE.refuses("room 5 0 0 0 60", 0);
        HOUSE.refuses("room 9 0 0 0 60", 0);
    }

    private static void roomKindsAndFloors() {
        for (int kind = 0; kind < 4; kind++) {
            HOUSE.does("room 8 " + kind + " 0 2 60", 1);
            HOUSE.and("room 8 " + kind + " 0 2 60").tells("look 8 0", kind);
        }
        HOUSE.refuses("room 8 -1 0 2 60", 0);
        HOUSE.refuses("room 8 4 0 2 60", 0);
        HOUSE.refuses("room 8 MIN 0 2 60", 0);
        HOUSE.refuses("room 8 MAX 0 2 60", 0);
        HOUSE.and("room 8 0 0 0 60").tells("look 8 1", 0);
        HOUSE.does("room 8 0 9 0 60", 1);
        HOUSE.and("room 8 0 9 0 60").tells("look 8 1", 9);
        HOUSE.refuses("room 8 0 -1 0 60", 0);
        HOUSE.refuses("room 8 0 10 0 60", 0);
        HOUSE.refuses("room 8 0 MIN 0 60", 0);
        HOUSE.refuses("room 8 0 MAX 0 60", 0);
        HOUSE.refuses("room 8 3 10 2 60", 0);
    }

    private static void roomBeds() {
        for (int beds = 2; beds <= 6; beds++) {
            Stand dorm = HOUSE.and("room 8 3 0 " + beds + " 60");
            dorm.tells("look 8 2", beds);
            dorm.tells("rooms 3 59 0", 3 + beds);
        }
        HOUSE.does("room 8 3 0 2 60", 1);
        HOUSE.does("room 8 3 0 6 60", 1);
        for (String beds : new String[] {"MIN", "-1", "0", "1", "7", "MAX"}) {
            HOUSE.refuses("room 8 3 0 " + beds + " 60", 0);
            for (int kind = 0; kind < 3; kind++) {
                HOUSE.does("room 8 " + kind + " 0 " + beds + " 60", 1);
                HOUSE.and("room 8 " + kind + " 0 " + beds + " 60").tells("look 8 2", kind == 0 ? 1 : 2);
            }
        }
    }

    private static void roomNights() {
        HOUSE.does("room 8 0 0 0 0", 1);
        HOUSE.does("room 8 0 0 0 60", 1);
        HOUSE.refuses("room 8 0 0 0 -1", 0);
        HOUSE.refuses("room 8 0 0 0 61", 0);
        HOUSE.refuses("room 8 0 0 0 MIN", 0);
        HOUSE.refuses("room 8 0 0 0 MAX", 0);
        Stand none = HOUSE.and("room 8 0 0 0 0");
        none.tells("night 8 0", -1);
        none.tells("open 8 0", 0);
        Stand one = HOUSE.and("room 8 0 0 0 1");
        one.tells("night 8 0", 1);
        one.tells("night 8 1", -1);
        Stand all = HOUSE.and("room 8 0 0 0 60");
        all.tells("night 8 0", 1);
        all.tells("night 8 59", 1);
        all.tells("shut 8 0 60 0", 0);
        all.does("shut 8 0 60 1", 60);
        all.tells("count 1", 9);
        HOUSE.tells("count 1", 8);
    }

    private static void store() {
        Stand.with("").does("store 0", 1);
        Stand.with("store 0").tells("count 2", 1);
        Stand.with("store 0; store 15").tells("count 2", 2);
        HOUSE.does("store 15", 1);
        HOUSE.does("store 8", 1);
        HOUSE.refuses("store 16", 0);
        HOUSE.refuses("store -1", 0);
        HOUSE.refuses("store MIN", 0);
        HOUSE.refuses("store MAX", 0);
        HOUSE.refuses("store 5", 0);
        HOUSE.refuses("store 0", 0);
        HOUSE.refuses("store 9", 0);
        Stand more = HOUSE.and("store 8");
        more.tells("look 8 0", 4);
        more.tells("count 1", 8);
        more.tells("count 2", 2);
        more.refuses("room 8 0 0 0 60", 0);
        more.refuses("door 7", 0);
    }

    private static void fullHouse() {
        StringBuilder run = new StringBuilder();
        for (int p = 0; p < 15; p++) {
            run.append("room ").append(p).append(" 3 0 6 60;");
        }
        Stand almost = Stand.with(run.toString());
        almost.does("store 15", 1);
        almost.does("room 15 3 0 6 60", 1);
        Stand full = almost.and("room 15 3 0 6 60");
        full.tells("count 1", 16);
        full.tells("rooms 3 0 0", 96);
        for (int p = 0; p < 16; p++) {
            full.refuses("room " + p + " 0 0 0 60", 0);
            full.refuses("store " + p, 0);
        }
    }

    private static void doorPlaces() {
        StringBuilder run = new StringBuilder();
        for (int p = 0; p < 16; p++) {
            run.append("room ").append(p).append(" 1 4 0 60;");
        }
        Stand doubles = Stand.with(run + "promise 2 1 0 3 -1");
        for (int p = 0; p < 15; p++) {
            doubles.does("door " + p, 1);
        }
        doubles.refuses("door 15", 0);
        doubles.refuses("door 16", 0);
        doubles.refuses("door -1", 0);
        doubles.refuses("door MIN", 0);
        doubles.refuses("door MAX", 0);
        Stand first = doubles.and("door 0");
        first.tells("look 0 3", 1);
        first.tells("look 1 3", 0);
        first.tells("look 2 3", -1);
        Stand last = doubles.and("door 14");
        last.tells("look 14 3", 15);
        last.tells("look 15 3", 14);
        last.tells("look 13 3", -1);
        last.tells("count 3", 1);
        Stand all = doubles.and("door 0; door 2; door 4; door 6; door 8; door 10; door 12; door 14");
        all.tells("count 3", 8);
        for (int p = 0; p < 16; p++) {
            all.refuses("door " + p, 0);
        }
    }

    private static void doorKinds() {
        for (int low = 0; low < 4; low++) {
            for (int high = 0; high < 4; high++) {
                Stand pair = Stand.with("room 3 " + low + " 5 2 60; room 4 " + high + " 5 2 60");
                if (low == 1 && high == 1) {
                    pair.does("door 3", 1);
                } else {
                    pair.refuses("door 3", 0);
                }
                pair.refuses("door 2", 0);
                pair.refuses("door 4", 0);
            }
        }
        Stand.with("room 3 1 5 2 60; store 4").refuses("door 3", 0);
        Stand.with("store 3; room 4 1 5 2 60").refuses("door 3", 0);
        Stand.with("room 3 1 0 2 60; room 4 1 0 2 60").does("door 3", 1);
        Stand.with("room 3 1 9 2 60; room 4 1 9 2 60").does("door 3", 1);
        Stand.with("room 3 1 5 2 60; room 4 1 6 2 60").refuses("door 3", 0);
        Stand.with("room 3 1 6 2 60; room 4 1 5 2 60").refuses("door 3", 0);
        Stand.with("room 3 1 5 2 60; room 5 1 5 2 60").refuses("door 3", 0);
        // neither a calendar without a night nor a closed one makes a Double another kind
        Stand.with("room 3 1 5 2 0; room 4 1 5 2 60; close 4").does("door 3", 1);
    }

    private static void doorOncePerDouble() {
        HOUSE.refuses("door 1", 0);
        HOUSE.refuses("door 0", 0);
        HOUSE.refuses("door 2", 0);
        HOUSE.refuses("door 6", 0);
        HOUSE.and("room 8 1 3 0 60").does("door 7", 1);
        Stand row = Stand.with("room 1 1 0 0 60; room 2 1 0 0 60; room 3 1 0 0 60; room 4 1 0 0 60; door 2");
        row.refuses("door 1", 0);
        row.refuses("door 2", 0);
        row.refuses("door 3", 0);
        row.tells("count 3", 1);
    }

    private static void shutNights() {
        Stand stand = HOUSE.and("room 8 0 0 0 60");
        stand.does("shut 8 0 60 1", 60);
        stand.does("shut 8 59 60 1", 1);
        stand.does("shut 8 0 1 1", 1);
        stand.tells("shut 8 0 0 1", 0);
        stand.tells("shut 8 60 60 1", 0);
        stand.tells("shut 8 30 30 1", 0);
        stand.refuses("shut 8 -1 60 1", -1);
        stand.refuses("shut 8 0 61 1", -1);
        stand.refuses("shut 8 61 61 1", -1);
        stand.refuses("shut 8 -1 -1 1", -1);
        stand.refuses("shut 8 31 30 1", -1);
        stand.refuses("shut 8 60 0 1", -1);
        stand.refuses("shut 8 MIN MAX 1", -1);
        stand.refuses("shut 8 0 MAX 1", -1);
        stand.refuses("shut 8 MAX MIN 1", -1);
        Stand shut = stand.and("shut 8 20 30 1");
        shut.tells("night 8 19", 1);
        shut.tells("night 8 20", 0);
        shut.tells("night 8 29", 0);
        shut.tells("night 8 30", 1);
        shut.tells("shut 8 20 30 1", 0);
        shut.does("shut 8 19 31 1", 2);
        shut.tells("shut 8 0 20 0", 0);
        shut.tells("shut 8 30 60 0", 0);
        shut.does("shut 8 0 21 0", 1);
        shut.does("shut 8 0 60 0", 10);
        shut.refuses("shut 8 -1 60 0", -1);
        shut.refuses("shut 8 0 61 0", -1);
        shut.refuses("shut 8 21 20 0", -1);
    }

    private static void shutCalendar() {
        Stand ten = HOUSE.and("room 8 0 0 0 10");
        ten.does("shut 8 9 10 1", 1);
        ten.tells("shut 8 10 11 1", 0);
        ten.tells("shut 8 10 60 1", 0);
        ten.tells("shut 8 11 60 1", 0);
        ten.tells("shut 8 59 60 1", 0);
        ten.does("shut 8 9 60 1", 1);
        ten.does("shut 8 0 60 1", 10);
        Stand later = ten.and("shut 8 0 60 1; open 8 5");
        later.tells("night 8 9", 0);
        later.tells("night 8 10", 1);
        later.tells("night 8 14", 1);
        later.tells("night 8 15", -1);
        later.does("shut 8 0 60 0", 10);
        HOUSE.and("room 8 0 0 0 0").tells("shut 8 0 60 1", 0);
        HOUSE.and("room 8 0 0 0 0").tells("shut 8 1 60 1", 0);
    }

    private static void shutWhere() {
        HOUSE.does("shut 0 5 6 1", 1);
        for (String p : new String[] {"5", "8", "9", "15", "16", "-1", "MIN", "MAX"}) {
            HOUSE.refuses("shut " + p + " 0 60 1", -1);
            HOUSE.refuses("shut " + p + " 0 60 0", -1);
            HOUSE.refuses("shut " + p + " 0 0 1", -1);
        }
        HOUSE.and("open 9 10").does("shut 9 0 60 1", 10);
        HOUSE.and("room 15 0 0 0 60").does("shut 15 0 60 1", 60);
    }

    private static void openNights() {
        HOUSE.tells("open 6 0", 30);
        HOUSE.does("open 6 1", 31);
        HOUSE.does("open 6 30", 60);
        HOUSE.refuses("open 6 31", -1);
        HOUSE.refuses("open 6 -1", -1);
        HOUSE.refuses("open 6 MIN", -1);
        HOUSE.refuses("open 6 MAX", -1);
        HOUSE.refuses("open 6 2147483618", -1);
        HOUSE.tells("open 0 0", 60);
        HOUSE.refuses("open 0 1", -1);
        Stand one = HOUSE.and("open 6 1");
        one.tells("night 6 9", 1);
        one.tells("night 6 10", 0);
        one.tells("night 6 19", 0);
        one.tells("night 6 30", 1);
        one.tells("night 6 31", -1);
        HOUSE.and("open 6 30").tells("night 6 59", 1);
        HOUSE.and("room 8 0 0 0 0").does("open 8 60", 60);
        HOUSE.and("room 8 0 0 0 0").refuses("open 8 61", -1);
    }

    private static void openClosed() {
        HOUSE.does("open 9 0", 0);
        HOUSE.does("open 9 60", 60);
        HOUSE.refuses("open 9 61", -1);
        HOUSE.refuses("open 9 -1", -1);
        HOUSE.refuses("open 9 MAX", -1);
        HOUSE.refuses("open 9 MIN", -1);
        HOUSE.and("open 9 0").tells("night 9 0", -1);
        HOUSE.and("open 9 60").tells("night 9 59", 1);
        // what it had ahead of being closed is neither counted nor shut
        Stand anew = HOUSE.and("close 6; open 6 55");
        anew.tells("night 6 10", 1);
        anew.tells("night 6 54", 1);
        anew.tells("night 6 55", -1);
        anew.does("open 6 5", 60);
        anew.refuses("open 6 6", -1);
    }

    private static void openWhere() {
        for (String p : new String[] {"5", "8", "15", "16", "-1", "MIN", "MAX"}) {
            HOUSE.refuses("open " + p + " 0", -1);
            HOUSE.refuses("open " + p + " 1", -1);
        }
        HOUSE.and("room 15 0 0 0 59").does("open 15 1", 60);
    }

    private static void close() {
        HOUSE.does("close 0", 1);
        HOUSE.does("close 4", 1);
        for (String p : new String[] {"5", "8", "9", "15", "16", "-1", "MIN", "MAX"}) {
            HOUSE.refuses("close " + p, 0);
        }
        HOUSE.and("open 9 0").does("close 9", 1);
        HOUSE.and("room 15 0 0 0 0").does("close 15", 1);
        Stand closed = HOUSE.and("close 1");
        closed.refuses("close 1", 0);
        closed.tells("night 1 0", -2);
        closed.tells("night 1 59", -2);
        closed.tells("look 1 0", 1);
        closed.tells("look 1 1", 2);
        closed.tells("look 1 2", 2);
        closed.tells("look 1 3", 2);
        closed.tells("count 1", 8);
        closed.tells("count 3", 1);
        closed.tells("can 4 1 50 51", 0);
        closed.and("over 0").tells("can 4 1 50 51", 3);
    }

    private static void look() {
        HOUSE.tells("look 0 0", 0);
        HOUSE.tells("look 1 0", 1);
        HOUSE.tells("look 3 0", 2);
        HOUSE.tells("look 4 0", 3);
        HOUSE.tells("look 5 0", 4);
        HOUSE.tells("look 8 0", -1);
        HOUSE.tells("look 9 0", 0);
        for (int what = 1; what < 4; what++) {
            HOUSE.tells("look 5 " + what, -1);
            HOUSE.tells("look 8 " + what, -1);
            HOUSE.tells("look 15 " + what, -1);
        }
        HOUSE.tells("look 4 1", 9);
        HOUSE.tells("look 3 1", 0);
        HOUSE.tells("look 4 2", 3);
        HOUSE.tells("look 0 3", -1);
        HOUSE.tells("look 1 3", 2);
        HOUSE.tells("look 2 3", 1);
        for (String what : new String[] {"-1", "4", "MIN", "MAX"}) {
            HOUSE.refuses("look 1 " + what, -1);
            HOUSE.refuses("look 5 " + what, -1);
            HOUSE.refuses("look 8 " + what, -1);
        }
        for (String p : new String[] {"-1", "16", "MIN", "MAX"}) {
            for (int what = -1; what < 5; what++) {
                HOUSE.refuses("look " + p + " " + what, -2);
            }
        }
    }

    private static void night() {
        HOUSE.tells("night 0 0", 1);
        HOUSE.tells("night 0 59", 1);
        HOUSE.tells("night 6 9", 1);
        HOUSE.tells("night 6 10", 0);
        HOUSE.tells("night 6 19", 0);
        HOUSE.tells("night 6 20", 1);
        HOUSE.tells("night 6 29", 1);
        HOUSE.tells("night 6 30", -1);
        HOUSE.tells("night 6 59", -1);
        HOUSE.tells("night 9 0", -2);
        HOUSE.tells("night 9 10", -2);
        for (String p : new String[] {"5", "8", "15", "16", "-1", "MIN", "MAX"}) {
            HOUSE.tells("night " + p + " 0", -3);
            HOUSE.tells("night " + p + " 59", -3);
        }
        for (String p : new String[] {"0", "5", "8", "9", "16", "-1"}) {
            for (String n : new String[] {"-1", "60", "MIN", "MAX"}) {
                HOUSE.refuses("night " + p + " " + n, -4);
            }
        }
        // the nights that are over stay as they are asked for
        HOUSE.days(2).tells("night 0 0", 1);
        HOUSE.days(2).does("shut 0 0 1 1", 1);
    }

    /** The 512th call is the last that must be answered rightly. */
    private static void theLastCall() {
        String run = "room 0 0 0 0 60; promise 1 1 0 3 -1;" + "come 0; next; shut 0 0 60 1; shut 0 0 60 0; moves;".repeat(101)
            + "look 0 0; look 0 0; look 0 0; look 0 0";
        GuestHouse x = Told.played(Call.run(run), 1);
        Check.due("the 512th call", Call.of("promised 0 7").on(x), 3);
        x = Told.played(Call.run(run), 1);
        Check.due("the 512th call", Call.of("shut 0 0 60 1").on(x), 60);
    }
}
