import java.util.ArrayList;
import java.util.List;

/** Where a house stands behind a run of calls, and what one call more answers and changes there. */
final class Stand {
    private final List<Call> run;
    private Told before;

    private Stand(List<Call> run) {
        this.run = run;
    }

    static Stand with(String calls) {
        return new Stand(Call.run(calls));
    }

    Stand and(String calls) {
        List<Call> longer = new ArrayList<>(run);
        longer.addAll(Call.run(calls));
        return new Stand(longer);
    }

    /** So many ends of days more. */
    Stand days(int ends) {
        return and("next;".repeat(ends));
    }

    /** The call answers so, and other calls show that something has changed, the same if the plan was asked ahead. */
    void does(String text, long due) {
        answers(text, due, 1);
        Told now = told(text);
        Check.no(text + " changed nothing", before().differs(now).isEmpty());
        same(text + " if asked ahead", now.differs(told("moves; " + text)));
    }

    /** The call answers so, also a second time, and no other call shows anything of it. */
    void refuses(String text, long due) {
        answers(text, due, 2);
        changesNothing(text);
        changesNothing("moves; " + text + "; " + text);
    }

    /** A question: as refuses(), for what is no refusal. */
    void tells(String text, long due) {
        refuses(text, due);
    }

    private void answers(String text, long due, int times) {
        Call call = Call.of(text);
        GuestHouse x = Told.played(run, times);
        for (int k = 0; k < times; k++) {
            Check.due(text + " behind " + run, call.on(x), due);
        }
    }

    private void changesNothing(String text) {
        same(text + " changed nothing", before().differs(told(text)));
    }

    private void same(String what, String other) {
        if (!other.isEmpty()) {
            System.out.println("behind " + run + " is other: " + other);
        }
        Check.yes(what, other.isEmpty());
    }

    private Told before() {
        if (before == null) {
            before = Told.behind(run);
        }
        return before;
    }

    private Told told(String text) {
        return Told.behind(and(text).run);
    }
}
