import java.util.NoSuchElementException;

/** Any numbers in any state: no call throws but promised(), and a call that refuses changes nothing. */
public final class EdgeTest {
    private static final int[] ODD = {
        Integer.MIN_VALUE, Integer.MIN_VALUE + 1, -1000, -33, -2, -1, 0, 1, 2, 15, 16, 39, 40, 59, 60, 61, 64, 1000,
        Integer.MAX_VALUE - 1, Integer.MAX_VALUE,
    };
    /** No number of these is a place, night, promise, kind, want or what, nor makes a span. */
    private static final String[] WRONG = {"MIN", "-33", "-2", "61", "64", "1000", "MAX"};

    public static void main(String[] args) {
        for (int state = 0; state < 4; state++) {
            everyCall(state);
            refusedChangesNothing(state);
        }
        Check.end();
    }

    /** 0 new, 1 with rooms and promises, 2 the same, full, 3 at the last day. */
    private static String made(int state) {
        if (state == 0) {
            return "";
        }
        StringBuilder run = new StringBuilder("room 0 1 0 0 60; room 1 1 0 0 60; room 2 1 1 0 60; room 3 1 1 0 60;"
            + "room 4 1 2 0 60; room 5 1 2 0 60; room 6 3 0 6 60; room 7 2 0 6 60; store 8; door 0; door 2;"
            + "price 2 0 60 10; rule 0 3 -10;");
        run.append(state == 2 ? "over 40;" : "over 1;");
        for (int q = 0; q < (state == 2 ? 40 : 8); q++) {
            run.append("promise ").append(q % 5).append(" 1 ").append(q % 3).append(" 5 ");
            run.append(q % 2 == 0 ? -1 : 3).append(';');
        }
        return run + "come 0; next;" + (state == 3 ? "next;".repeat(58) : "");
    }

    private static void everyCall(int state) {
        int thrown = 0;
        for (int a : ODD) {
            GuestHouse x = Told.played(Call.run(made(state)), 0);
            for (int b : ODD) {
                try {
                    twoNumbers(x, a, b);
                    manyNumbers(x, a, b);
                } catch (RuntimeException e) {
                    thrown++;
                    System.out.println("state " + state + ", " + a + ", " + b + ": " + e);
                }
                try {
                    x.promised(a, b);
                } catch (NoSuchElementException e) {
                    Check.yes("no such promise or what", a < 0 || a >= x.count(4) || b < 0 || b > 8);
                }
            }
        }
        Check.due("thrown", thrown, 0);
    }

    private static void twoNumbers(GuestHouse x, int a, int b) {
        x.look(a, b);
        x.night(a, b);
        x.spot(a, b);
        x.open(a, b);
        x.lacks(a);
        x.count(a);
        x.drop(a);
        x.over(a);
        x.firm(a);
        x.come(a);
        x.cancel(a);
        x.close(a);
        x.door(a);
        x.store(a);
        x.next();
        x.moves();
    }

    private static void manyNumbers(GuestHouse x, int a, int b) {
        for (int c : ODD) {
            x.shut(a, b, c, true);
            x.shut(a, b, c, false);
            x.can(2, a, b, c);
            x.can(a, 1, b, c);
            x.can(4, 1, b, c);
            x.promise(a, 1, b, c, b);
            x.change(a, b, c);
            x.floors(a, b, c);
            x.rooms(a, b, c);
            x.price(2, a, b, c);
            x.price(a, b, c, 1);
            x.rule(a, b, c);
            x.cost(a, b, c);
            x.least(a, b, c, 0);
            x.least(2, a, b, c);
            x.room(a, b, 1, c, 60);
            x.room(a, 3, b, c, 60);
        }
    }

    private static void refusedChangesNothing(int state) {
        Stand stand = Stand.with(made(state));
        for (String w : WRONG) {
            for (String call : refusedWith(w).split("; *")) {
                stand.refuses(call, due(call));
            }
        }
    }

    private static String refusedWith(String w) {
        return ("room W 0 0 0 60; room 15 W 0 2 60; room 15 0 W 0 60; room 15 0 0 0 W; room 15 3 0 W 60; store W; door W;"
            + "shut W 0 60 1; shut 0 W 60 1; shut 0 0 W 1; open W 1; open 0 W; close W;"
            + "promise W 1 59 60 -1; promise 2 W 59 60 -1; promise 2 1 W 60 -1; promise 2 1 59 W -1;"
            + "can W 1 59 60; can 2 W 59 60; can 2 1 W 60; can 2 1 59 W; firm W; cancel W; change W 59 60; come W;"
            + "promised W 0; promised 0 W; spot W 59; spot 0 W; lacks W; rooms W 59 0; rooms 0 W 0; rooms 0 59 W;"
            + "over W; price W 0 60 5; price 2 W 60 5; price 2 0 W 5; rule W 1 0; rule 0 W 5; rule 2 W 5; drop W;"
            + "cost W 59 60; cost 2 W 60; cost 2 59 W; least W 59 60 0; least 2 W 60 0; least 2 59 W 0; least 2 59 60 W;"
            + "look W 0; night 0 W; count W").replace("W", w);
    }

    /** What a call answers whose number is not as told. */
    private static long due(String call) {
        switch (call.substring(0, call.indexOf(' '))) {
            case "room":
            case "store":
            case "door":
            case "close":
            case "firm":
            case "cancel":
            case "come":
            case "over":
            case "price":
            case "drop":
                return 0;
            case "can":
                return 1;
            case "change":
                return 6;
            case "promise":
            case "look":
                return -2;
            case "night":
                return -4;
            case "promised":
                return Call.THROWN;
            default:
                return -1;
        }
    }
}
