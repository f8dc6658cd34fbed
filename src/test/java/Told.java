import java.util.ArrayList;
import java.util.List;

/**
 * All that calls show of a house behind a run of calls. The run is played anew for every part of the questions, since
 * an object is only good for 512 calls; what cannot be asked is brought to light by calls that go on from there.
 */
final class Told {
    private static final int MOST_CALLS = 512;
    private static final List<List<Call>> PARTS = parts();

    private final List<Call> asked = new ArrayList<>();
    private final List<Long> answers = new ArrayList<>();

    private Told() {
    }

    static Told behind(List<Call> run) {
        Told told = new Told();
        for (List<Call> part : PARTS) {
            GuestHouse x = played(run, part.size());
            for (Call call : part) {
                told.asked.add(call);
                told.answers.add(call.on(x));
            }
        }
        return told;
    }

    /** A new object behind the run, on which so many calls more are meant. */
    static GuestHouse played(List<Call> run, int more) {
        if (run.size() + more > MOST_CALLS) {
            throw new IllegalArgumentException("the run is too long: " + run.size() + " calls and " + more + " more");
        }
        GuestHouse x = new GuestHouse();
        for (Call call : run) {
            call.on(x);
        }
        return x;
    }

    /** What differs first, or nothing. */
    String differs(Told other) {
        for (int k = 0; k < answers.size(); k++) {
            if (!answers.get(k).equals(other.answers.get(k))) {
                return asked.get(k) + ": " + answers.get(k) + " and " + other.answers.get(k);
            }
        }
        return "";
    }

    private static List<List<Call>> parts() {
        List<Call> questions = new ArrayList<>();
        ofPlaces(questions);
        ofPromises(questions);
        ofNights(questions);
        ofPrices(questions);
        List<List<Call>> all = new ArrayList<>();
        for (int k = 0; k < questions.size(); k += 360) {
            all.add(questions.subList(k, Math.min(k + 360, questions.size())));
        }
        all.add(daysToCome());
        all.add(changesOfPlaces());
        all.add(changesOfPromises());
        all.add(changesOfRules());
        return all;
    }

    private static void ofPlaces(List<Call> all) {
        for (int p = 0; p < 16; p++) {
            for (int what = 0; what < 4; what++) {
                all.add(Call.of("look " + p + " " + what));
            }
            for (int n = 0; n < 60; n++) {
                all.add(Call.of("night " + p + " " + n));
            }
        }
    }

    private static void ofPromises(List<Call> all) {
        for (int q = 0; q < 40; q++) {
            for (int what = 0; what < 9; what++) {
                all.add(Call.of("promised " + q + " " + what));
            }
            for (int n = 0; n < 60; n++) {
                all.add(Call.of("spot " + q + " " + n));
            }
        }
        for (int what = 0; what < 8; what++) {
            all.add(Call.of("count " + what));
        }
        all.add(Call.of("moves"));
    }

    private static void ofNights(List<Call> all) {
        for (int n = 0; n < 60; n++) {
            all.add(Call.of("lacks " + n));
            all.add(Call.of("floors 0 39 " + n));
            for (int kind = 0; kind < 4; kind++) {
                all.add(Call.of("rooms " + kind + " " + n + " 0"));
                all.add(Call.of("rooms " + kind + " " + n + " 1"));
            }
            for (int want = 0; want < 5; want++) {
                all.add(Call.of("can " + want + " 1 " + n + " " + (n + 1)));
            }
        }
    }

    private static void ofPrices(List<Call> all) {
        for (int want = 0; want < 5; want++) {
            for (int n = 0; n < 60; n++) {
                all.add(Call.of("cost " + want + " " + n + " " + (n + 1)));
                all.add(Call.of("cost " + want + " " + n + " 60"));
            }
            for (int n = 0; n < 60; n += 7) {
                all.add(Call.of("least " + want + " " + n + " 60 0"));
                all.add(Call.of("least " + want + " " + n + " 60 1"));
            }
        }
    }

    private static List<Call> daysToCome() {
        StringBuilder run = new StringBuilder();
        for (int day = 0; day < 7; day++) {
            for (int q = 0; q < 40; q++) {
                run.append("come ").append(q).append(';');
            }
            run.append("moves; next; count 5;");
        }
        for (int q = 0; q < 40; q++) {
            run.append("promised ").append(q).append(" 0;");
        }
        return Call.run(run.toString());
    }

    private static List<Call> changesOfPlaces() {
        StringBuilder run = new StringBuilder();
        for (int p = 0; p < 16; p++) {
            run.append("open ").append(p).append(" 0; shut ").append(p).append(" 0 60 1;");
            run.append("open ").append(p).append(" 3; door ").append(p).append(";");
            run.append("close ").append(p).append("; open ").append(p).append(" 4;");
            run.append("shut ").append(p).append(" 0 60 1; store ").append(p).append(';');
        }
        return Call.run(run + "count 2; count 3");
    }

    private static List<Call> changesOfPromises() {
        StringBuilder run = new StringBuilder("over 0; promise 0 1 59 60 59; over 40; promise 1 1 58 60 -1;");
        for (int q = 0; q < 40; q++) {
            run.append("change ").append(q).append(" 58 60; firm ").append(q).append(';');
            run.append("change ").append(q).append(" 57 59; cancel ").append(q).append(';');
        }
        return Call.run(run + "count 5; promise 0 1 59 60 59");
    }

    private static List<Call> changesOfRules() {
        StringBuilder run = new StringBuilder();
        for (int k = 0; k < 9; k++) {
            run.append("drop ").append(k).append("; cost 2 59 60; least 2 50 60 0; least 2 50 60 1;");
        }
        for (int k = 0; k < 9; k++) {
            run.append("rule 0 1 1;");
        }
        return Call.run(run + "count 7");
    }
}
