import java.util.ArrayList;
import java.util.List;
import java.util.NoSuchElementException;

/** One call of the face, written as a text: its name and its numbers, MIN and MAX being the ends of int. */
final class Call {
    /** What stands for an answer, where the call throws NoSuchElementException. */
    static final long THROWN = Long.MIN_VALUE;

    private final String text;
    private final String name;
    private final int[] with;

    private Call(String text) {
        this.text = text;
        String[] words = text.split(" +");
        name = words[0];
        with = new int[words.length - 1];
        for (int k = 0; k < with.length; k++) {
            with[k] = number(words[k + 1]);
        }
    }

    static Call of(String text) {
        return new Call(text.trim());
    }

    /** Several calls, with ';' between them. */
    static List<Call> run(String text) {
        List<Call> all = new ArrayList<>();
        for (String one : text.split(";")) {
            if (!one.isBlank()) {
                all.add(of(one));
            }
        }
        return all;
    }

    private static int number(String word) {
        switch (word) {
            case "MIN":
                return Integer.MIN_VALUE;
            case "MAX":
                return Integer.MAX_VALUE;
            default:
                return Integer.parseInt(word);
        }
    }

    @Override
    public String toString() {
        return text;
    }

    long on(GuestHouse x) {
        try {
            return answer(x, with);
        } catch (NoSuchElementException e) {
            return THROWN;
        }
    }

    private static long bit(boolean answer) {
        return answer ? 1 : 0;
    }

    private long answer(GuestHouse x, int[] a) {
        switch (name) {
            case "room": return bit(x.room(a[0], a[1], a[2], a[3], a[4]));
            case "store": return bit(x.store(a[0]));
            case "door": return bit(x.door(a[0]));
            case "shut": return x.shut(a[0], a[1], a[2], a[3] == 1);
            case "open": return x.open(a[0], a[1]);
            case "close": return bit(x.close(a[0]));
            case "look": return x.look(a[0], a[1]);
            case "night": return x.night(a[0], a[1]);
            case "can": return x.can(a[0], a[1], a[2], a[3]);
            case "promise": return x.promise(a[0], a[1], a[2], a[3], a[4]);
            case "firm": return bit(x.firm(a[0]));
            case "cancel": return bit(x.cancel(a[0]));
            case "change": return x.change(a[0], a[1], a[2]);
            case "come": return bit(x.come(a[0]));
            case "next": return x.next();
            case "promised": return x.promised(a[0], a[1]);
            case "spot": return x.spot(a[0], a[1]);
            case "moves": return x.moves();
            case "floors": return x.floors(a[0], a[1], a[2]);
            case "lacks": return x.lacks(a[0]);
            case "rooms": return x.rooms(a[0], a[1], a[2]);
            case "over": return bit(x.over(a[0]));
            case "price": return bit(x.price(a[0], a[1], a[2], a[3]));
            case "rule": return x.rule(a[0], a[1], a[2]);
            case "drop": return bit(x.drop(a[0]));
            case "cost": return x.cost(a[0], a[1], a[2]);
            case "least": return x.least(a[0], a[1], a[2], a[3]);
            case "count": return x.count(a[0]);
            default: throw new IllegalArgumentException(text);
        }
    }
}
