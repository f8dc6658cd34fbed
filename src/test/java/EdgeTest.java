import java.util.NoSuchElementException;

/** Any numbers in any state: no call throws but promised(), and a call that refuses changes nothing. */
public final class EdgeTest {
    private static final int[] ODD = {
        Integer.MIN_VALUE, Integer.MIN_VALUE + 1, -1000, -33, -2, -1, 0, 1, 2, 15, 16, 39, 40, 59, 60, 61, 64, 1000,
        Integer.MAX_VALUE - 1, Integer.MAX_VALUE,
    };
    /** No number of these is a place, night, promise, kind, want or what, nor makes a span. */
    private static final int[] WRONG = {Integer.MIN_VALUE, -33, -2, 61, 64, 1000, Integer.MAX_VALUE};

    public static void main(String[] args) {
        for (int state = 0; state < 4; state++) {
            everyCall(state);
            refusedChangesNothing(state);
        }
        Check.end();
    }

    /** 0 new, 1 with rooms and promises, 2 the same, full, 3 at the last day. */
    private static GuestHouse made(int state) {
        GuestHouse x = new GuestHouse();
        if (state == 0) {
            return x;
        }
        for (int p = 0; p < 6; p++) {
            x.room(p, 1, p / 2, 0, 60);
        }
        x.room(6, 3, 0, 6, 60);
        x.room(7, 2, 0, 6, 60);
        x.store(8);
        x.door(0);
        x.door(2);
        x.over(state == 2 ? 40 : 1);
        x.price(2, 0, 60, 10);
        x.rule(0, 3, -10);
        for (int q = 0; q < (state == 2 ? 40 : 8); q++) {
            x.promise(q % 5, 1, q % 3, 5, q % 2 == 0 ? -1 : 3);
        }
        x.come(0);
        x.next();
        for (int d = 0; state == 3 && d < 60; d++) {
            x.next();
        }
        return x;
    }

    private static void everyCall(int state) {
        int thrown = 0;
        for (int a : ODD) {
            GuestHouse x = made(state);
            for (int b : ODD) {
                try {
                    twoNumbers(x, a, b);
                    manyNumbers(x, a, b);
                } catch (RuntimeException e) {
                    thrown++;
                    System.out.println("state " + state + ", " + a + ", " + b + ": " + e);
                }
                try {
                    x.promised(a, b);
                } catch (NoSuchElementException e) {
                    Check.yes("no such promise or what", a < 0 || a >= x.count(4) || b < 0 || b > 8);
                }
            }
        }
        Check.due("thrown", thrown, 0);
    }

    private static void twoNumbers(GuestHouse x, int a, int b) {
        x.look(a, b);
        x.night(a, b);
        x.spot(a, b);
        x.open(a, b);
        x.lacks(a);
        x.count(a);
        x.drop(a);
        x.over(a);
        x.firm(a);
        x.come(a);
        x.cancel(a);
        x.close(a);
        x.door(a);
        x.store(a);
        x.next();
        x.moves();
    }

    private static void manyNumbers(GuestHouse x, int a, int b) {
        for (int c : ODD) {
            x.shut(a, b, c, true);
            x.shut(a, b, c, false);
            x.can(2, a, b, c);
            x.can(a, 1, b, c);
            x.can(4, 1, b, c);
            x.promise(a, 1, b, c, b);
            x.change(a, b, c);
            x.floors(a, b, c);
            x.rooms(a, b, c);
            x.price(2, a, b, c);
            x.price(a, b, c, 1);
            x.rule(a, b, c);
            x.cost(a, b, c);
            x.least(a, b, c, 0);
            x.least(2, a, b, c);
            x.room(a, b, 1, c, 60);
            x.room(a, 3, b, c, 60);
        }
    }

    private static void refusedChangesNothing(int state) {
        GuestHouse x = made(state);
        String before = told(x);
        for (int w : WRONG) {
            x.room(w, 0, 0, 0, 60);
            x.room(15, w, 0, 2, 60);
            x.room(15, 0, w, 0, 60);
            x.room(15, 0, 0, 0, w);
            x.room(15, 3, 0, w, 60);
            x.store(w);
            x.door(w);
            x.shut(w, 0, 60, true);
            x.shut(0, w, 60, true);
            x.shut(0, 0, w, true);
            x.open(w, 1);
            x.open(0, w);
            x.close(w);
            x.promise(w, 1, 59, 60, -1);
            x.promise(2, w, 59, 60, -1);
            x.promise(2, 1, w, 60, -1);
            x.promise(2, 1, 59, w, -1);
            x.firm(w);
            x.cancel(w);
            x.change(w, 59, 60);
            x.change(3, w, 60);
            x.change(3, 59, w);
            x.come(w);
            x.over(w);
            x.price(w, 0, 60, 5);
            x.price(2, w, 60, 5);
            x.price(2, 0, w, 5);
            x.price(2, 0, 60, w < 0 ? w : 1000001);
            x.rule(w, 1, 0);
            x.rule(0, w, 5);
            x.rule(0, 1, w < 0 ? -101 : 301);
            x.drop(w);
            Check.notPromised(x, w, 0);
            Check.notPromised(x, 0, w);
        }
        Check.yes("state " + state + " is as it was", told(x).equals(before));
    }

    private static String told(GuestHouse x) {
        StringBuilder text = new StringBuilder();
        for (int k = 0; k < 60; k++) {
            for (int what = 0; what < 9; what++) {
                text.append(x.look(k, what)).append(' ').append(x.count(what)).append(' ');
                text.append(k < x.count(4) ? x.promised(k, what) : 0).append(' ');
                text.append(x.cost(what, k, k + 1)).append(' ').append(x.least(what, k, 60, 0)).append(' ');
            }
            for (int n = 0; n < 60; n++) {
                text.append(x.night(k, n)).append(' ').append(x.spot(k, n)).append(' ');
            }
            text.append(x.lacks(k)).append('\n');
        }
        return text.append(x.moves()).toString();
    }
}
