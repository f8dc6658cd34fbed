/** Promises 10 to 17 with sections 2 and 4, boundary by boundary. */
public final class BookEdgesTest {
    private static final String ROOMS =
        "room 0 0 0 0 60; room 1 1 0 0 60; room 2 1 0 0 60; room 3 2 0 0 60; room 4 3 0 2 60; door 1;"
        + "price 0 0 60 7; price 1 0 60 11; price 2 0 60 13; price 3 0 60 17; price 4 0 60 19;";
    /** Day 2, with somebody in the house. */
    private static final Stand DAY2 = Stand.with(
        ROOMS + "promise 1 1 0 9 -1; come 0; next; promise 0 1 1 5 -1; come 1; next; promise 2 1 4 6 3; rule 2 20 0");
    /** Day 1, promises 0 to 8 being of every state (their order: see STATES); 9 and 10 begin a day later. */
    private static final Stand EVERY = Stand.with(
        "room 0 0 0 0 60; room 1 3 0 6 60; over 9; price 0 0 60 7;"
        + "promise 0 1 0 1 -1; promise 0 1 0 9 -1; promise 0 1 0 2 -1; promise 1 1 0 3 -1; promise 1 1 0 3 -1;"
        + "promise 0 1 1 3 0; promise 0 1 1 3 5; promise 0 1 1 3 -1; promise 0 1 1 3 -1; cancel 8;"
        + "promise 0 1 2 3 5; promise 0 1 2 3 -1; come 0; come 1; come 3; come 4; next");
    private static final int[] STATES = {3, 2, 6, 2, 7, 5, 0, 1, 4, 0, 1};
    private static final String[] NO_PROMISE = {"-1", "11", "39", "40", "MIN", "MAX"};

    public static void main(String[] args) {
        canWants();
        canNights();
        canAllowed();
        canOver();
        canOverWithSuites();
        canInOrder();
        forty();
        promiseRefused();
        promiseTill();
        firm();
        cancel();
        change();
        changeRefused();
        changeItselfLeftOut();
        come();
        nextMisses();
        nextFallsAndGoes();
        nextWalks();
        nextLastDay();
        promised();
        Check.end();
    }

    private static void canWants() {
        int[] most = {1, 1, 2, 2, 4};
        for (int want = 0; want < 5; want++) {
            DAY2.tells("can " + want + " 1 10 11", 0);
            DAY2.tells("can " + want + " " + most[want] + " 10 11", 0);
            for (String people : new String[] {"0", "-1", "" + (most[want] + 1), "MIN", "MAX"}) {
                DAY2.refuses("can " + want + " " + people + " 10 11", 1);
                DAY2.refuses("promise " + want + " " + people + " 10 11 -1", -2);
            }
            DAY2.does("promise " + want + " " + most[want] + " 10 11 -1", 3);
        }
        for (String want : new String[] {"-1", "5", "MIN", "MAX"}) {
            DAY2.refuses("can " + want + " 1 10 11", 1);
            DAY2.refuses("promise " + want + " 1 10 11 -1", -2);
        }
    }

    private static void canNights() {
        DAY2.tells("can 0 1 2 3", 0);
        DAY2.refuses("can 0 1 1 3", 1);
        DAY2.refuses("can 0 1 -1 3", 1);
        DAY2.tells("can 0 1 59 60", 0);
        DAY2.refuses("can 0 1 59 61", 1);
        DAY2.refuses("can 0 1 60 61", 1);
        DAY2.refuses("can 0 1 60 60", 1);
        DAY2.refuses("can 0 1 10 10", 1);
        DAY2.refuses("can 0 1 10 9", 1);
        DAY2.refuses("can 0 1 MIN MAX", 1);
        DAY2.refuses("can 0 1 MAX MIN", 1);
        DAY2.refuses("can 0 1 10 MAX", 1);
        DAY2.refuses("can 0 1 MIN 10", 1);
        DAY2.tells("can 0 1 2 60", 0);
        Stand start = Stand.with(ROOMS);
        start.tells("can 0 1 0 1", 0);
        start.tells("can 0 1 0 60", 0);
        start.refuses("can 0 1 -1 1", 1);
        start.refuses("can 0 1 0 61", 1);
        start.refuses("can 0 1 0 0", 1);
    }

    private static void canAllowed() {
        DAY2.refuses("can 0 1 20 21", 2);
        DAY2.refuses("can 0 1 10 21", 2);
        DAY2.tells("can 0 1 20 22", 0);
        DAY2.tells("can 0 1 10 20", 0);
        DAY2.tells("can 0 1 21 22", 0);
        DAY2.refuses("promise 0 1 10 21 -1", -3);
        DAY2.does("promise 0 1 10 22 -1", 3);
        DAY2.and("drop 0").tells("can 0 1 20 21", 0);
        DAY2.and("rule 2 21 0").refuses("can 0 1 20 22", 2);
        DAY2.and("rule 2 21 0").tells("can 0 1 20 23", 0);
    }

    /** Two beds: as many over as told, and not one more; one night that passes it is enough. */
    private static void canOver() {
        StringBuilder run = new StringBuilder("room 0 3 0 2 60; promise 0 1 0 3 -1; promise 0 1 2 5 -1;");
        Stand stand = Stand.with(run.toString());
        stand.tells("can 0 1 0 2", 0);
        stand.refuses("can 0 1 0 3", 3);
        stand.refuses("can 0 1 2 3", 3);
        stand.tells("can 0 1 3 60", 0);
        stand.refuses("promise 0 1 2 3 -1", -4);
        stand.does("promise 0 1 3 4 -1", 2);
        for (int k = 1; k < 38; k++) {
            run.append("over ").append(k).append("; promise 0 1 2 3 -1;");
        }
        Stand over = Stand.with("room 0 3 0 2 60; over 3;" + "promise 0 1 2 3 -1;".repeat(5));
        over.tells("lacks 2", 3);
        over.refuses("can 0 1 2 3", 3);
        over.refuses("can 0 1 0 3", 3);
        over.refuses("promise 0 1 2 3 -1", -4);
        over.and("over 4").does("promise 0 1 2 3 -1", 5);
        over.and("cancel 4").does("promise 0 1 2 3 -1", 5);
        over.tells("can 0 1 1 2", 0);
        over.tells("can 0 1 3 4", 0);
        // who wants something else is counted in the same night: SHORT is above OVER already
        over.and("over 2; room 1 0 0 0 60").refuses("can 1 1 2 3", 3);
        over.and("room 1 0 0 0 60").tells("can 1 1 2 3", 0);
        Stand forty = Stand.with(run.toString()).and("over 38; promise 0 1 2 3 -1");
        forty.tells("lacks 2", 38);
        forty.refuses("can 0 1 2 3", 3);
        forty.and("over 40").refuses("can 0 1 2 3", 4);
        Stand.with("over 40").does("promise 4 4 0 60 -1", 0);
        Stand.with("over 0").refuses("promise 4 4 0 60 -1", -4);
        Stand.with("over 1").does("promise 4 4 0 60 -1", 0);
    }

    private static void canOverWithSuites() {
        Stand pair = Stand.with("room 0 1 0 0 60; room 1 1 0 0 60; door 0");
        pair.tells("can 4 1 0 1", 0);
        pair.and("promise 2 1 0 1 -1").refuses("can 4 1 0 1", 3);
        pair.and("promise 2 1 0 1 -1").tells("can 2 1 0 1", 0);
        pair.and("promise 4 1 0 1 -1").refuses("can 2 1 0 1", 3);
        pair.and("promise 4 1 0 1 -1").refuses("can 4 1 0 1", 3);
        pair.and("shut 0 0 1 1").refuses("can 4 1 0 1", 3);
        pair.and("shut 1 0 1 1").refuses("can 4 1 0 1", 3);
        pair.and("shut 1 0 1 1").tells("can 2 1 0 1", 0);
        // leaving the suite out alone is the least, so a second double costs nothing more, a third one does
        Stand over = pair.and("over 1; promise 4 1 0 1 -1; promise 2 1 0 1 -1");
        over.does("promise 2 1 0 1 -1", 2);
        over.and("promise 2 1 0 1 -1").refuses("promise 2 1 0 1 -1", -4);
        over.and("promise 2 1 0 1 -1").refuses("can 1 1 0 1", 3);
        over.and("promise 2 1 0 1 -1; room 2 0 0 0 1").tells("can 1 1 0 1", 0);
    }

    private static void canInOrder() {
        Stand stand = Stand.with("room 0 3 0 2 60; rule 2 5 0; over 0; close 0");
        stand.refuses("can 0 2 5 6", 1);
        stand.refuses("can 0 1 5 6", 2);
        stand.refuses("can 0 1 5 7", 3);
        stand.and("open 0 60").tells("can 0 1 5 7", 0);
        stand.refuses("promise 0 2 5 6 -2", -2);
        stand.refuses("promise 0 1 5 6 -2", -3);
        stand.refuses("promise 0 1 5 7 -2", -4);
        stand.and("open 0 60").refuses("promise 0 1 5 7 -2", -6);
    }

    private static void forty() {
        StringBuilder run = new StringBuilder("room 0 3 0 2 60; rule 2 58 0;");
        for (int q = 0; q < 39; q++) {
            run.append("promise 0 1 ").append(q).append(' ').append(q + 1).append(" -1;");
        }
        Stand almost = Stand.with(run.toString());
        almost.tells("can 0 1 0 1", 0);
        almost.does("promise 0 1 0 1 -1", 39);
        Stand full = almost.and("promise 0 1 0 1 -1");
        full.tells("count 4", 40);
        full.refuses("can 0 1 50 51", 4);
        full.refuses("promise 0 1 50 51 -1", -5);
        full.refuses("promise 0 1 50 51 -2", -5);
        full.refuses("can 0 1 0 1", 3);
        full.refuses("can 0 1 58 59", 2);
        full.refuses("can 0 2 50 51", 1);
        full.does("change 39 50 51", 0);
        full.does("cancel 39", 1);
        full.and("cancel 39").refuses("promise 0 1 0 1 -1", -5);
        full.days(3).refuses("promise 0 1 50 51 -1", -5);
        full.tells("promised 39 0", 1);
        full.refuses("promised 40 0", Call.THROWN);
    }

    /** Behind a promise that is refused the next one has the number that it would have had. */
    private static void promiseRefused() {
        DAY2.refuses("promise 0 1 1 3 -1", -2);
        DAY2.refuses("promise 0 1 59 61 -1", -2);
        DAY2.refuses("promise 0 1 5 5 -1", -2);
        DAY2.refuses("promise 0 1 20 21 -1", -3);
        DAY2.and("promise 3 1 10 11 -1").refuses("promise 3 1 10 11 -1", -4);
        DAY2.does("promise 0 1 2 3 -1", 3);
        DAY2.does("promise 0 1 59 60 -1", 3);
        DAY2.and("promise 0 1 1 3 -1; promise 0 1 5 5 -1").does("promise 0 1 5 6 -1", 3);
        Stand made = DAY2.and("promise 4 3 5 8 4");
        int[] due = {0, 4, 3, 5, 8, 4, 57, 0, 0};
        for (int what = 0; what < due.length; what++) {
            made.tells("promised 3 " + what, due[what]);
        }
    }

    private static void promiseTill() {
        DAY2.does("promise 0 1 5 6 2", 3);
        DAY2.refuses("promise 0 1 5 6 1", -6);
        DAY2.refuses("promise 0 1 5 6 0", -6);
        DAY2.refuses("promise 0 1 5 6 -2", -6);
        DAY2.refuses("promise 0 1 5 6 MIN", -6);
        DAY2.does("promise 0 1 5 6 MAX", 3);
        DAY2.does("promise 0 1 5 6 -1", 3);
        DAY2.and("promise 0 1 5 6 2").tells("promised 3 0", 0);
        DAY2.and("promise 0 1 5 6 2").tells("promised 3 5", 2);
        DAY2.and("promise 0 1 5 6 MAX").tells("promised 3 5", Integer.MAX_VALUE);
        DAY2.and("promise 0 1 5 6 -1").tells("promised 3 0", 1);
        DAY2.and("promise 0 1 5 6 -1").tells("promised 3 5", -1);
        Stand start = Stand.with(ROOMS);
        start.does("promise 0 1 0 1 0", 0);
        start.and("promise 0 1 0 1 0").tells("promised 0 0", 0);
        start.and("promise 0 1 0 1 -1").tells("promised 0 0", 1);
        start.refuses("promise 0 1 0 1 -2", -6);
    }

    private static void firm() {
        for (int q = 0; q < STATES.length; q++) {
            EVERY.tells("promised " + q + " 0", STATES[q]);
            if (STATES[q] == 0) {
                EVERY.does("firm " + q, 1);
                Stand firm = EVERY.and("firm " + q);
                firm.tells("promised " + q + " 0", 1);
                firm.tells("promised " + q + " 5", 5);
                firm.refuses("firm " + q, 0);
            } else {
                EVERY.refuses("firm " + q, 0);
            }
        }
        for (String q : NO_PROMISE) {
            EVERY.refuses("firm " + q, 0);
        }
    }

    private static void cancel() {
        for (int q = 0; q < STATES.length; q++) {
            if (STATES[q] < 2) {
                EVERY.does("cancel " + q, 1);
                Stand cancelled = EVERY.and("cancel " + q);
                cancelled.tells("promised " + q + " 0", 4);
                cancelled.refuses("cancel " + q, 0);
                cancelled.refuses("firm " + q, 0);
                cancelled.refuses("come " + q, 0);
                cancelled.refuses("change " + q + " 5 6", 6);
            } else {
                EVERY.refuses("cancel " + q, 0);
            }
        }
        for (String q : NO_PROMISE) {
            EVERY.refuses("cancel " + q, 0);
        }
    }

    private static void change() {
        for (int q = 0; q < STATES.length; q++) {
            if (STATES[q] < 2) {
                EVERY.does("change " + q + " 4 8", 0);
                Stand changed = EVERY.and("change " + q + " 4 8");
                changed.tells("promised " + q + " 0", STATES[q]);
                changed.tells("promised " + q + " 3", 4);
                changed.tells("promised " + q + " 4", 8);
                changed.tells("promised " + q + " 5", STATES[q] == 0 ? 5 : -1);
                changed.tells("promised " + q + " 6", 28);
                changed.tells("spot " + q + " 3", -1);
                changed.tells("spot " + q + " 8", -1);
            } else {
                EVERY.refuses("change " + q + " 4 8", 6);
                EVERY.refuses("change " + q + " 8 4", 6);
            }
        }
        for (String q : NO_PROMISE) {
            EVERY.refuses("change " + q + " 4 8", 6);
            EVERY.refuses("change " + q + " 8 4", 6);
        }
    }

    private static void changeRefused() {
        for (int q = 6; q <= 7; q++) {
            EVERY.tells("change " + q + " 1 3", 0);
            EVERY.does("change " + q + " 1 60", 0);
            EVERY.does("change " + q + " 59 60", 0);
            EVERY.refuses("change " + q + " 0 3", 1);
            EVERY.refuses("change " + q + " -1 3", 1);
            EVERY.refuses("change " + q + " 1 61", 1);
            EVERY.refuses("change " + q + " 5 5", 1);
            EVERY.refuses("change " + q + " 5 4", 1);
            EVERY.refuses("change " + q + " MIN MAX", 1);
            Stand ruled = EVERY.and("rule 2 5 0");
            ruled.refuses("change " + q + " 2 6", 2);
            ruled.does("change " + q + " 2 7", 0);
            Stand shut = EVERY.and("over 0; shut 1 7 8 1");
            shut.does("change " + q + " 3 7", 0);
            shut.refuses("change " + q + " 3 8", 3);
            shut.refuses("change " + q + " 7 8", 3);
            // promise 1 goes short in that night already
            shut.and("over 1").refuses("change " + q + " 7 8", 3);
            shut.and("over 2").does("change " + q + " 7 8", 0);
            shut.and("rule 2 7 0").refuses("change " + q + " 3 8", 2);
        }
        // its price is made anew, even if its nights stay
        Stand dearer = EVERY.and("price 0 0 60 8");
        dearer.does("change 6 1 3", 0);
        dearer.and("change 6 1 3").tells("promised 6 6", 16);
        dearer.and("change 6 0 3").tells("promised 6 6", 14);
    }

    private static void changeItselfLeftOut() {
        Stand one = Stand.with("room 0 0 0 0 60; promise 1 1 2 5 -1; promise 1 1 5 7 9");
        one.tells("change 0 2 5", 0);
        one.does("change 0 1 5", 0);
        one.does("change 0 4 5", 0);
        one.refuses("change 0 2 6", 3);
        one.refuses("change 0 6 8", 3);
        one.does("change 0 7 8", 0);
        one.does("change 1 5 60", 0);
        one.refuses("change 1 4 7", 3);
        one.and("cancel 0").does("change 1 2 7", 0);
    }

    private static void come() {
        for (int q = 0; q < 9; q++) {
            if (STATES[q] < 2) {
                EVERY.does("come " + q, 1);
                Stand come = EVERY.and("come " + q);
                come.tells("promised " + q + " 0", 2);
                come.refuses("come " + q, 0);
                come.refuses("firm " + q, 0);
                come.refuses("cancel " + q, 0);
                come.refuses("change " + q + " 1 3", 6);
            } else {
                EVERY.refuses("come " + q, 0);
            }
        }
        EVERY.refuses("come 9", 0);
        EVERY.refuses("come 10", 0);
        EVERY.days(1).does("come 9", 1);
        EVERY.days(1).does("come 10", 1);
        EVERY.days(2).refuses("come 9", 0);
        EVERY.and("change 9 1 3").does("come 9", 1);
        EVERY.and("change 6 2 3").refuses("come 6", 0);
        for (String q : NO_PROMISE) {
            EVERY.refuses("come " + q, 0);
        }
    }

    /** A night is wanted from from on, and not in to; held or firm. */
    private static void nextMisses() {
        for (int till : new int[] {-1, 9}) {
            int stays = till == -1 ? 1 : 0;
            Stand day = Stand.with("room 0 3 0 6 60; next; next").and(
                "promise 0 1 2 3 " + till + "; promise 0 1 2 9 " + till + "; promise 0 1 3 4 " + till);
            day.does("next", 0);
            Stand over = day.days(1);
            over.tells("promised 0 0", 6);
            over.tells("promised 1 0", 6);
            over.tells("promised 2 0", stays);
            over.tells("spot 0 2", -1);
            over.tells("promised 0 7", 0);
            over.tells("spot 1 3", -1);
            over.tells("spot 2 3", 0);
            over.days(1).tells("promised 2 0", 6);
            // those who are neither are not missed
            day.and("cancel 0; come 1").days(1).tells("promised 0 0", 4);
            day.and("cancel 0; come 1").days(1).tells("promised 1 0", 2);
        }
        // missed goes ahead of fallen: it is held till the day that ends
        Stand.with("room 0 0 0 0 60; promise 1 1 0 1 0; next").tells("promised 0 0", 6);
    }

    private static void nextFallsAndGoes() {
        Stand day = Stand.with("room 0 3 0 6 60; promise 0 1 0 1 -1; promise 0 1 0 2 -1; promise 0 1 8 9 0;"
            + "promise 0 1 8 9 1; promise 0 1 8 9 0; firm 4; promise 0 1 8 9 0; cancel 5; come 0; come 1");
        Stand one = day.days(1);
        one.tells("promised 0 0", 3);
        one.tells("promised 1 0", 2);
        one.tells("promised 2 0", 5);
        one.tells("promised 3 0", 0);
        one.tells("promised 4 0", 1);
        one.tells("promised 5 0", 4);
        one.tells("count 5", 3);
        one.refuses("firm 2", 0);
        one.does("firm 3", 1);
        Stand two = day.days(2);
        two.tells("promised 1 0", 3);
        two.tells("promised 3 0", 5);
        two.tells("promised 4 0", 1);
        two.tells("count 5", 1);
        one.and("firm 3").days(1).tells("promised 3 0", 1);
        day.days(8).tells("promised 4 0", 1);
        day.days(9).tells("promised 4 0", 6);
    }

    private static void nextWalks() {
        for (int come = 0; come < 6; come++) {
            StringBuilder run = new StringBuilder("room 0 3 0 2 60; over 5;" + "promise 0 1 0 2 -1;".repeat(6));
            for (int q = 0; q < come; q++) {
                run.append("come ").append(5 - q).append(';');
            }
            Stand stand = Stand.with(run.toString());
            stand.does("next", Math.max(0, come - 2));
            Stand over = stand.days(1);
            for (int q = 0; q < 6; q++) {
                boolean came = q > 5 - come;
                boolean kept = came && q < 8 - come;
                over.tells("promised " + q + " 0", kept ? 2 : came ? 7 : 6);
                over.tells("promised " + q + " 7", kept ? 1 : 0);
            }
            over.does("next", 0);
        }
        // who is walked in its last night is not gone, and keeps the nights that it had
        Stand last = Stand.with("room 0 0 0 0 60; promise 1 1 0 2 -1; come 0; next; shut 0 1 2 1");
        last.does("next", 1);
        last.days(1).tells("promised 0 0", 7);
        last.days(1).tells("promised 0 7", 1);
        last.days(1).tells("spot 0 0", 0);
        last.days(1).tells("spot 0 1", -1);
        last.and("shut 0 1 2 0").does("next", 0);
        last.and("shut 0 1 2 0").days(1).tells("promised 0 0", 3);
    }

    private static void nextLastDay() {
        Stand late = Stand.with("room 0 0 0 0 60; promise 1 1 58 60 -1; promise 1 1 57 58 -1").days(58);
        late.tells("count 0", 58);
        late.does("next", 0);
        Stand last = late.and("come 0; next");
        last.tells("count 0", 59);
        last.refuses("next", -1);
        last.tells("promised 0 0", 2);
        last.tells("promised 0 7", 1);
        last.tells("spot 0 59", 0);
        last.tells("lacks 58", -1);
        last.tells("lacks 59", 0);
        last.refuses("can 1 1 59 60", 3);
        last.refuses("can 1 1 58 60", 1);
        last.refuses("can 1 1 60 61", 1);
        last.and("room 1 0 0 0 60; promise 1 1 59 60 59").refuses("next", -1);
        last.and("room 1 0 0 0 60; promise 1 1 59 60 59").does("come 2", 1);
    }

    private static void promised() {
        for (int q = 0; q < 11; q++) {
            EVERY.tells("promised " + q + " 0", STATES[q]);
            for (String what : new String[] {"-1", "9", "MIN", "MAX"}) {
                EVERY.refuses("promised " + q + " " + what, Call.THROWN);
            }
        }
        for (String q : NO_PROMISE) {
            for (int what = -1; what < 10; what++) {
                EVERY.refuses("promised " + q + " " + what, Call.THROWN);
            }
        }
        EVERY.tells("promised 0 8", 0);
        EVERY.tells("promised 10 8", 0);
        EVERY.tells("promised 5 5", 0);
        EVERY.tells("promised 6 5", 5);
        EVERY.tells("promised 7 5", -1);
        EVERY.tells("promised 1 6", 63);
        EVERY.tells("promised 1 7", 1);
        EVERY.tells("promised 4 7", 0);
        Stand.with("").refuses("promised 0 0", Call.THROWN);
    }
}
