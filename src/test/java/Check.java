import java.util.NoSuchElementException;

/** Counts the answers that are not the ones that are due, and ends a test by them. */
final class Check {
    private static int asked = 0;
    private static int wrong = 0;

    private Check() {
    }

    static void due(String call, long got, long want) {
        asked++;
        if (got != want) {
            wrong++;
            System.out.println(call + " answered " + got + ", due is " + want);
        }
    }

    static void yes(String call, boolean got) {
        due(call, got ? 1 : 0, 1);
    }

    static void no(String call, boolean got) {
        due(call, got ? 1 : 0, 0);
    }

    static void promised(GuestHouse house, int q, int what, long want) {
        String call = "promised(" + q + ", " + what + ")";
        try {
            due(call, house.promised(q, what), want);
        } catch (NoSuchElementException e) {
            due(call + " threw", 1, 0);
        }
    }

    static void notPromised(GuestHouse house, int q, int what) {
        boolean thrown = false;
        try {
            house.promised(q, what);
        } catch (NoSuchElementException e) {
            thrown = true;
        }
        yes("promised(" + q + ", " + what + ") throws", thrown);
    }

    static void end() {
        System.out.println(wrong + " of " + asked + " answers are not as due");
        if (wrong != 0 || asked == 0) {
            System.exit(1);
        }
    }
}
