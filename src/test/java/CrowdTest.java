import java.util.Random;

/** Random runs against the slow model in full houses whose days go by: who comes, is walked, moves and misses. */
public final class CrowdTest {
    private static final int RUNS = 400;
    private static final int CALLS = 512;
    private static int walked = 0;
    private static int moved = 0;
    private static int ends = 0;

    private final Random random;
    private final GuestHouse house = new GuestHouse();
    private final Model model = new Model();
    private final int seed;
    private final int places;
    private final int speed;
    private int calls = 0;

    private CrowdTest(int seed) {
        this.seed = seed;
        random = new Random(seed);
        places = seed % 3 == 0 ? 16 : 4 + random.nextInt(8);
        speed = 4 * (1 + random.nextInt(4));
    }

    public static void main(String[] args) {
        for (int seed = 0; seed < RUNS; seed++) {
            new CrowdTest(seed).run();
        }
        Check.yes("somebody was walked", walked > 0);
        Check.yes("somebody moved", moved > 0);
        Check.yes("the last day was reached", ends > 0);
        Check.end();
    }

    private int below(int n) {
        return random.nextInt(n);
    }

    private boolean odds(int n) {
        return below(n) == 0;
    }

    private long same(String call, long got, long due) {
        calls++;
        Check.due("seed " + seed + ", call " + calls + ": " + call, got, due);
        return due;
    }

    private boolean same(String call, boolean got, boolean due) {
        return same(call, got ? 1L : 0L, due ? 1L : 0L) == 1L;
    }

    private void run() {
        build();
        while (calls < CALLS) {
            int dice = below(100);
            if (dice < 20) {
                promise();
            } else if (dice < 45) {
                come();
            } else if (dice < 45 + speed) {
                endDay();
            } else if (dice < 66) {
                calendar(dice);
            } else if (dice < 73) {
                another(dice);
            } else {
                ask(dice);
            }
        }
    }

    private void build() {
        int style = below(4);
        for (int p = 0; p < places; p++) {
            int kind = style == 0 ? 1 : style == 1 ? odds(4) ? 2 : 1 : below(4);
            int floor = odds(3) ? below(10) : 1;
            int beds = 2 + below(5);
            int nights = odds(4) ? below(61) : 60;
            same("room", house.room(p, kind, floor, beds, nights), model.room(p, kind, floor, beds, nights));
        }
        for (int p = 0; p < 15; p++) {
            if (odds(2)) {
                same("door", house.door(p), model.door(p));
            }
        }
        int over = below(5);
        same("over", house.over(over), model.over(over));
    }

    private int soon() {
        return Math.min(59, model.day + (odds(2) ? 0 : below(6)));
    }

    private int behind(int from) {
        return Math.min(60, from + 1 + below(6));
    }

    /** A night round the day, also a past one. */
    private int near() {
        return Math.max(0, Math.min(59, model.day - 3 + below(10)));
    }

    private int anyone() {
        return below(Math.max(1, model.guests.size()));
    }

    private void promise() {
        int want = odds(3) ? below(5) : 1 + below(4);
        int from = soon();
        int to = behind(from);
        int till = odds(2) ? -1 : model.day + below(4);
        same("promise", house.promise(want, 1, from, to, till), model.promise(want, 1, from, to, till));
    }

    private void come() {
        int who = anyone();
        for (int q = 0; q < model.guests.size(); q++) {
            Model.Guest one = model.guests.get(q);
            if (one.state < 2 && one.from == model.day && odds(2)) {
                who = q;
                break;
            }
        }
        same("come", house.come(who), model.come(who));
    }

    private void endDay() {
        long due = same("next", house.next(), model.next());
        walked += due > 0 ? 1 : 0;
        ends += due == -1 ? 1 : 0;
    }

    private void calendar(int dice) {
        int p = below(places);
        if (dice < 62) {
            int from = near();
            int to = Math.min(60, from + 1 + below(4));
            boolean on = odds(2);
            same("shut", house.shut(p, from, to, on), model.shut(p, from, to, on));
        } else if (dice < 63) {
            same("close", house.close(p), model.close(p));
        } else {
            int more = below(61);
            same("open", house.open(p, more), model.open(p, more));
        }
    }

    private void another(int dice) {
        int q = anyone();
        if (dice < 70) {
            int from = soon();
            int to = behind(from);
            same("change", house.change(q, from, to), model.change(q, from, to));
        } else if (dice < 72) {
            same("firm", house.firm(q), model.firm(q));
        } else {
            same("cancel", house.cancel(q), model.cancel(q));
        }
    }

    private void ask(int dice) {
        int n = near();
        if (dice < 75) {
            moved += same("moves", house.moves(), model.moves()) > 0 ? 1 : 0;
        } else if (dice < 80) {
            same("lacks", house.lacks(n), model.lacks(n));
        } else if (dice < 84) {
            int kind = below(4);
            same("rooms", house.rooms(kind, n, 1), model.rooms(kind, n, 1));
        } else if (dice < 86) {
            int a = below(10);
            int b = a + below(30);
            same("floors", house.floors(a, b, n), model.floors(a, b, n));
        } else if (dice < 90 && !model.guests.isEmpty()) {
            int q = anyone();
            int what = below(9);
            same("promised", house.promised(q, what), model.promised(q, what));
        } else {
            spots(n);
        }
    }

    private void spots(int n) {
        int[] due = model.nightSpots(n);
        int first = anyone();
        int end = odds(10) ? due.length : Math.min(due.length, first + 4);
        for (int q = first; q < end && calls < CALLS; q++) {
            same("spot", house.spot(q, n), due[q]);
        }
    }
}
