import java.util.NoSuchElementException;
import java.util.Random;

/** Random runs of calls on the house and on the slow model: each answer must be the same. */
public final class ModelTest {
    private static final int RUNS = 2000;
    private static final int CALLS = 512;
    private static final long THROWN = Long.MIN_VALUE;
    private static int wrong = 0;

    private final Random random;
    private final GuestHouse house = new GuestHouse();
    private final Model model = new Model();
    private final int seed;
    private final int places;
    private final int horizon;
    private final StringBuilder story = new StringBuilder();

    private ModelTest(int seed) {
        this.seed = seed;
        random = new Random(seed);
        places = seed % 5 == 0 ? 16 : 3 + random.nextInt(6);
        horizon = seed % 7 == 0 ? 60 : 4 + random.nextInt(8);
    }

    public static void main(String[] args) {
        for (int seed = 0; seed < RUNS && wrong < 5; seed++) {
            new ModelTest(seed).run();
        }
        System.out.println(wrong == 0 ? "house and model agree" : wrong + " runs differ");
        if (wrong != 0) {
            System.exit(1);
        }
    }

    private int below(int n) {
        return random.nextInt(n);
    }

    /** Mostly a number 0 .. n - 1, now and then one at or behind the edges. */
    private int near(int n) {
        int dice = below(40);
        int[] odd = {-1, n, Integer.MAX_VALUE, Integer.MIN_VALUE};
        return dice < odd.length ? odd[dice] : below(n);
    }

    private int from() {
        int dice = below(20);
        return dice == 0 ? near(60) : Math.min(model.day + below(horizon), 59);
    }

    private int till(int from) {
        return below(25) == 0 ? near(61) : Math.min(60, from + 1 + below(4));
    }

    private void run() {
        if (below(2) == 0) {
            for (int k = 0; k < places; k++) {
                step(0);
            }
        }
        for (int k = 0; k < CALLS; k++) {
            if (!step(below(100))) {
                wrong++;
                System.out.println("seed " + seed + ":\n" + story);
                return;
            }
        }
    }

    private boolean step(int dice) {
        if (dice < 5) {
            int kind = below(3) == 0 ? near(4) : 1;
            int floor = below(3) == 0 ? near(10) : 2;
            int nights = below(3) == 0 ? near(61) : 60;
            return roomCall(near(places), kind, floor, 2 + near(5), nights);
        }
        if (dice < 40) {
            return bookCall(dice);
        }
        if (dice < 60) {
            return calendarCall(dice);
        }
        if (dice < 75) {
            return priceCall(dice);
        }
        return askCall(dice);
    }

    private boolean roomCall(int p, int kind, int floor, int beds, int nights) {
        return same("room " + p + " " + kind + " " + floor + " " + beds + " " + nights,
            bit(house.room(p, kind, floor, beds, nights)), bit(model.room(p, kind, floor, beds, nights)));
    }

    private boolean bookCall(int dice) {
        int q = below(10) == 0 ? near(40) : below(Math.max(1, model.guests.size()));
        int from = from();
        int to = till(from);
        int want = below(3) == 0 ? near(5) : new int[] {1, 2, 2, 4}[below(4)];
        int people = below(4) == 0 ? near(6) : 1;
        int till = below(2) == 0 ? -1 : below(8) == 0 ? near(60) : model.day + below(5);
        if (dice < 20) {
            return same("promise " + want + " " + people + " " + from + " " + to + " " + till,
                house.promise(want, people, from, to, till), model.promise(want, people, from, to, till));
        }
        if (dice < 23) {
            return same("can " + want + " " + people + " " + from + " " + to,
                house.can(want, people, from, to), model.can(want, people, from, to));
        }
        if (dice < 25) {
            return same("firm " + q, bit(house.firm(q)), bit(model.firm(q)));
        }
        if (dice < 26) {
            return same("cancel " + q, bit(house.cancel(q)), bit(model.cancel(q)));
        }
        if (dice < 29) {
            return same("change " + q + " " + from + " " + to, house.change(q, from, to), model.change(q, from, to));
        }
        if (dice < 38) {
            return same("come " + q, bit(house.come(q)), bit(model.come(q)));
        }
        return same("next", house.next(), model.next());
    }

    private boolean calendarCall(int dice) {
        int p = near(places);
        int from = from();
        int to = till(from);
        if (dice < 44) {
            boolean on = below(2) == 0;
            return same("shut " + p + " " + from + " " + to + " " + on,
                house.shut(p, from, to, on), model.shut(p, from, to, on));
        }
        if (dice < 48) {
            int more = near(61);
            return same("open " + p + " " + more, house.open(p, more), model.open(p, more));
        }
        if (dice < 49) {
            return same("close " + p, bit(house.close(p)), bit(model.close(p)));
        }
        if (dice < 51) {
            return same("door " + p, bit(house.door(p)), bit(model.door(p)));
        }
        if (dice < 52) {
            return below(3) > 0 || same("store " + p, bit(house.store(p)), bit(model.store(p)));
        }
        if (dice < 55) {
            int what = near(4);
            return same("look " + p + " " + what, house.look(p, what), model.look(p, what));
        }
        if (dice < 58) {
            int n = near(60);
            return same("night " + p + " " + n, house.night(p, n), model.night(p, n));
        }
        int k = below(3) == 0 ? near(41) : below(3);
        return same("over " + k, bit(house.over(k)), bit(model.over(k)));
    }

    private boolean priceCall(int dice) {
        int want = near(5);
        int from = from();
        int to = below(2) == 0 ? Math.min(60, from + 1 + below(12)) : till(from);
        if (dice < 64) {
            int amount = below(2) == 0 ? near(1000001) : below(300);
            return same("price " + want + " " + from + " " + to + " " + amount,
                bit(house.price(want, from, to, amount)), bit(model.price(want, from, to, amount)));
        }
        if (dice < 66) {
            int sort = near(3);
            int n = below(2) == 0 ? near(61) : below(6);
            int percentage = below(401) - 100 + (below(20) == 0 ? 400 : 0) - (below(20) == 0 ? 400 : 0);
            return same("rule " + sort + " " + n + " " + percentage,
                house.rule(sort, n, percentage), model.rule(sort, n, percentage));
        }
        if (dice < 67) {
            int k = near(8);
            return same("drop " + k, bit(house.drop(k)), bit(model.drop(k)));
        }
        if (dice < 71) {
            return same("cost " + want + " " + from + " " + to, house.cost(want, from, to), model.cost(want, from, to));
        }
        int what = near(2);
        return same("least " + want + " " + from + " " + to + " " + what,
            house.least(want, from, to, what), model.least(want, from, to, what));
    }

    private boolean askCall(int dice) {
        int q = near(Math.max(1, model.guests.size()));
        int n = below(8) == 0 ? near(60) : Math.max(0, Math.min(59, model.day - 4 + below(horizon + 4)));
        if (dice < 80) {
            int what = near(9);
            return same("promised " + q + " " + what, promisedBy(q, what, true), promisedBy(q, what, false));
        }
        if (dice < 86) {
            return same("spot " + q + " " + n, house.spot(q, n), model.spot(q, n));
        }
        if (dice < 88) {
            return same("moves", house.moves(), model.moves());
        }
        if (dice < 90) {
            int b = near(40);
            return same("floors " + q + " " + b + " " + n, house.floors(q, b, n), model.floors(q, b, n));
        }
        if (dice < 92) {
            return same("lacks " + n, house.lacks(n), model.lacks(n));
        }
        if (dice < 96) {
            int kind = near(4);
            int what = near(2);
            return same("rooms " + kind + " " + n + " " + what, house.rooms(kind, n, what), model.rooms(kind, n, what));
        }
        if (dice < 98) {
            int what = near(8);
            return same("count " + what, house.count(what), model.count(what));
        }
        return allSpots();
    }

    private boolean allSpots() {
        int last = Math.min(59, model.day + horizon + 3);
        int[][] due = model.table(last);
        for (int n = 0; n <= last; n++) {
            for (int q = 0; q < model.guests.size(); q++) {
                if (!same("spot " + q + " " + n, house.spot(q, n), due[n][q])) {
                    return false;
                }
            }
        }
        return true;
    }

    private long promisedBy(int q, int what, boolean byHouse) {
        try {
            return byHouse ? house.promised(q, what) : model.promised(q, what);
        } catch (NoSuchElementException e) {
            return THROWN;
        }
    }

    private static long bit(boolean b) {
        return b ? 1 : 0;
    }

    private boolean same(String call, long got, long due) {
        story.append(call).append(" -> ").append(due).append('\n');
        if (got != due) {
            story.append("  but the house answered ").append(got).append('\n');
        }
        return got == due;
    }
}
