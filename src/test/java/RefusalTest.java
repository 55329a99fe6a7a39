import java.util.ArrayList;
import java.util.List;
import java.util.function.Supplier;

/**
 * "Refused, changing nothing but STATUS": two objects are told the same; the one is then called so that it refuses (or
 * asked what changes nothing), the other is not. Behind that both must answer alike, whatever they are asked, to the
 * last that may be undone and the last of the images; but for the one refusal in STATUS.
 */
public final class RefusalTest {
    private static final int BAD = -2, NO = -3, FULL = -4;
    private static int wrong = 0;
    private static int pairs = 0;

    interface Call {
        long on(PaperHears x);
    }

    public static void main(String[] args) {
        refusedWhereNothingIs();
        refusedWhereSomeIs();
        refusedWhereAllIsFull();
        refusedInTheLastMinute();
        asked();
        faults();
        chances();
        System.out.println(wrong == 0 ? pairs + " pairs of objects are alike" : wrong + " answers are not alike");
        if (wrong != 0) {
            System.exit(1);
        }
    }

    private static void due(String call, long got, long want) {
        if (got != want) {
            wrong++;
            System.out.println(call + " answered " + got + ", due is " + want);
        }
    }

    private static void refused(String call, Supplier<PaperHears> maker, Call refusal, long answer, int reason) {
        PaperHears x = maker.get();
        PaperHears y = maker.get();
        due(call, refusal.on(x), answer);
        alike(call, x, y, reason);
    }

    private static void changesNothing(String call, Supplier<PaperHears> maker, Call question) {
        PaperHears x = maker.get();
        PaperHears y = maker.get();
        long first = question.on(x);
        due(call + " again", question.on(x), first);
        alike(call, x, y, -1);
    }

    /** The reason is the STATUS that is one more in x; -1: none is. */
    private static void alike(String call, PaperHears x, PaperHears y, int reason) {
        pairs++;
        for (int what = 0; what < 3; what++) {
            due("status(" + what + ") behind " + call, x.status(what), y.status(what) + (what == reason ? 1 : 0));
        }
        List<Long> one = all(x);
        List<Long> other = all(y);
        due("how many answers there are behind " + call, one.size(), other.size());
        for (int k = 0; k < one.size() && k < other.size(); k++) {
            due("question " + k + " behind " + call, one.get(k), other.get(k));
        }
        for (int what = 0; what < 3; what++) {
            due("status(" + what + ") at last behind " + call, x.status(what), y.status(what) + (what == reason ? 1 : 0));
        }
    }

    /** All that can be asked of an object; it is used up by that. */
    private static List<Long> all(PaperHears x) {
        List<Long> answers = new ArrayList<>();
        now(x, answers);
        undone(x, answers);
        answers.add((long) x.from(0));
        undone(x, answers);
        answers.add((long) x.from(1));
        undone(x, answers);
        answers.add((long) x.read());
        answers.add(x.digest());
        answers.add((long) x.clear());
        return answers;
    }

    private static void undone(PaperHears x, List<Long> answers) {
        for (int k = 0; k < 9; k++) {
            answers.add(x.digest());
            answers.add((long) x.undo());
        }
    }

    private static void now(PaperHears x, List<Long> answers) {
        answers.add(x.digest());
        answers.add(x.part(0));
        answers.add(x.part(1));
        for (int what = 0; what < 10; what++) {
            answers.add((long) x.count(what));
        }
        for (int s = 0; s < 8; s++) {
            long saying = x.of(s, 0) + 10L * x.of(s, 1) + 100L * x.of(s, 2) + 1000L * x.is(s);
            answers.add(saying + 100000L * x.look(s) + 10000000L * x.loud(s, 5));
        }
        for (int i = 0; i < 3; i++) {
            long listener = x.about(i, 0) + 10L * x.about(i, 1) + 100L * x.kinds(i) + 10000L * x.ask(i);
            answers.add(listener + 100000000L * x.stay(i, 1, 2, -1));
            answers.add(x.about(i, 2) + 1000L * x.about(i, 3));
            for (int s = 0; s < 8; s++) {
                answers.add((long) x.first(i, s));
            }
        }
        for (int r = 0; r < 4; r++) {
            answers.add(x.room(r, 0) + 100L * x.room(r, 1) + 100000L * x.said(r, 0));
            answers.add(x.said(r, 1) + 1000L * x.said(r, 2));
        }
        answers.add(x.stand(3, 0) + 100L * x.stand(3, 1));
        answers.add(x.brothers(-1) + 100L * x.brothers(0));
        answers.add((long) x.jobs(7, 20));
    }

    private static void type(PaperHears x, String text) {
        for (int k = 0; k < text.length(); k++) {
            x.type(text.charAt(k));
        }
    }

    private static PaperHears some() {
        PaperHears x = new PaperHears();
        type(x, "house;say 0 0 9;say 1 3 4;ear 0 0;ear 2 3;strip 0;");
        x.read();
        x.minutes(2);
        x.strips(3);
        x.image(0);
        x.goes(0, 3);
        x.told(3, 0, 2);
        x.note(1, 4, 0, 2);
        x.mark(0, 1, 0, 1);
        x.minutes(1);
        x.holds(1, 1, 3);
        x.strips(4);
        x.from(1);
        return x;
    }

    private static PaperHears full() {
        PaperHears x = new PaperHears();
        type(x, "house;say 0 0 9;say 0 0 4;say 1 1 9;say 2 1 9;say 3 2 9;say 4 2 9;say 5 3 9;say 0 3 1;"
            + "ear 0 0;ear 1 1;ear 5 2;strip 0;strip 2;");
        x.read();
        for (int k = 0; k < 4; k++) {
            x.minutes(1 + k);
            x.goes(k % 3, 3);
            x.strips(k);
            if (k == 1) {
                x.image(1);
            }
        }
        for (int k = 0; k < 6; k++) {
            x.told(k % 4, k, 9 + k);
            x.note(k, 9, k, 9);
            x.mark(k % 3, k, 4 * k, k % 2);
        }
        x.image(0);
        x.minutes(1);
        x.holds(0, 6, 5);
        for (int k = 0; k < 40; k++) {
            x.type(32);
        }
        return x;
    }

    private static PaperHears last() {
        PaperHears x = new PaperHears();
        type(x, "house;say 0 0 9;say 0 1 9;ear 0 0;ear 0 1;");
        x.read();
        for (int k = 0; k < 101; k++) {
            x.minutes(99);
        }
        x.strips(0);
        x.image(1);
        x.strips(1);
        x.minutes(5);
        return x;
    }

    private static void bad(String call, Supplier<PaperHears> maker, Call refusal) {
        refused(call, maker, refusal, BAD, 0);
    }

    private static void refusedWhereNothingIs() {
        Supplier<PaperHears> fresh = PaperHears::new;
        neverAsTold("new: ", fresh);
        bad("new: goes(0, 1)", fresh, x -> x.goes(0, 1));
        bad("new: of(0, 0)", fresh, x -> x.of(0, 0));
        bad("new: about(0, 0)", fresh, x -> x.about(0, 0));
        bad("new: loud(0, 0)", fresh, x -> x.loud(0, 0));
        bad("new: first(0, 0)", fresh, x -> x.first(0, 0));
        bad("new: stay(0, 0, 0, 0)", fresh, x -> x.stay(0, 0, 0, 0));
        bad("new: note(0, 1, 0, 0)", fresh, x -> x.note(0, 1, 0, 0));
        bad("new: mark(0, 0, 0, 0)", fresh, x -> x.mark(0, 0, 0, 0));
        bad("new: is(0)", fresh, x -> x.is(0));
        bad("new: look(0)", fresh, x -> x.look(0));
        bad("new: kinds(0)", fresh, x -> x.kinds(0));
        bad("new: ask(0)", fresh, x -> x.ask(0));
        bad("new: holds(0, 0, 0)", fresh, x -> x.holds(0, 0, 0));
        refused("new: papers(0)", fresh, x -> x.papers(0), NO, 1);
        refused("new: undo()", fresh, x -> x.undo(), NO, 1);
        refused("new: stand(1, 0)", fresh, x -> x.stand(1, 0), NO, 1);
        refused("new: brothers(-1)", fresh, x -> x.brothers(-1), NO, 1);
        refused("new: from(0)", fresh, x -> x.from(0), NO, 1);
        refused("new: from(1)", fresh, x -> x.from(1), NO, 1);
    }

    private static void refusedWhereSomeIs() {
        Supplier<PaperHears> some = RefusalTest::some;
        neverAsTold("some: ", some);
        notThere("some: ", some, 2, 2);
        refused("some: papers(1)", some, x -> x.papers(1), NO, 1);
        refused("some: goes(0, 3)", some, x -> x.goes(0, 3), NO, 1);
        refused("some: goes(1, 3)", some, x -> x.goes(1, 3), NO, 1);
        refused("some: from(1)", some, x -> x.from(1), NO, 1);
        bad("some: stay(0, 4, 0, 0)", some, x -> x.stay(0, 4, 0, 0));
        bad("some: stay(0, 0, 4, 0)", some, x -> x.stay(0, 0, 4, 0));
        bad("some: stay(0, -1, 0, 0)", some, x -> x.stay(0, -1, 0, 0));
        bad("some: stay(0, 0, -1, 0)", some, x -> x.stay(0, 0, -1, 0));
        bad("some: stay(0, 3, 2, 0)", some, x -> x.stay(0, 3, 2, 0));
        bad("some: note(0, 0, 0, 0)", some, x -> x.note(0, 0, 0, 0));
        bad("some: note(0, 10, 0, 0)", some, x -> x.note(0, 10, 0, 0));
        bad("some: note(0, 1, 30, 0)", some, x -> x.note(0, 1, 30, 0));
        bad("some: note(0, 1, -1, 0)", some, x -> x.note(0, 1, -1, 0));
        bad("some: note(0, 1, 0, 21)", some, x -> x.note(0, 1, 0, 21));
        bad("some: note(0, 1, 0, -1)", some, x -> x.note(0, 1, 0, -1));
        bad("some: mark(0, 21, 0, 0)", some, x -> x.mark(0, 21, 0, 0));
        bad("some: mark(0, -1, 0, 0)", some, x -> x.mark(0, -1, 0, 0));
        bad("some: mark(0, 0, 100, 0)", some, x -> x.mark(0, 0, 100, 0));
        bad("some: mark(0, 0, -1, 0)", some, x -> x.mark(0, 0, -1, 0));
        bad("some: mark(0, 0, 0, 2)", some, x -> x.mark(0, 0, 0, 2));
        bad("some: mark(0, 0, 0, -1)", some, x -> x.mark(0, 0, 0, -1));
        bad("some: holds(0, 0, 11)", some, x -> x.holds(0, 0, 11));
        bad("some: holds(0, 0, -1)", some, x -> x.holds(0, 0, -1));
    }

    private static void refusedWhereAllIsFull() {
        Supplier<PaperHears> full = RefusalTest::full;
        neverAsTold("full: ", full);
        notThere("full: ", full, 8, 3);
        refused("full: say(0, 0, 1)", full, x -> x.say(0, 0, 1), FULL, 2);
        refused("full: ear(0)", full, x -> x.ear(0), FULL, 2);
        refused("full: type(32)", full, x -> x.type(32), FULL, 2);
        refused("full: told(0, 0, 0)", full, x -> x.told(0, 0, 0), FULL, 2);
        refused("full: note(0, 1, 0, 0)", full, x -> x.note(0, 1, 0, 0), FULL, 2);
        refused("full: mark(0, 0, 0, 0)", full, x -> x.mark(0, 0, 0, 0), FULL, 2);
        bad("full: note(0, 1, 0, 21)", full, x -> x.note(0, 1, 0, 21));
        bad("full: mark(0, 0, 0, 2)", full, x -> x.mark(0, 0, 0, 2));
        bad("full: stay(0, 256, 0, 0)", full, x -> x.stay(0, 256, 0, 0));
        bad("full: stay(0, 128, 255, 0)", full, x -> x.stay(0, 128, 255, 0));
    }

    private static void refusedInTheLastMinute() {
        Supplier<PaperHears> last = RefusalTest::last;
        neverAsTold("last: ", last);
        notThere("last: ", last, 2, 2);
        refused("last: papers(2)", last, x -> x.papers(2), NO, 1);
        refused("last: from(0)", last, x -> x.from(0), NO, 1);
    }

    /** What is BAD in any house. */
    private static void neverAsTold(String where, Supplier<PaperHears> maker) {
        bad(where + "say(6, 0, 1)", maker, x -> x.say(6, 0, 1));
        bad(where + "say(0, 4, 1)", maker, x -> x.say(0, 4, 1));
        bad(where + "say(0, 0, 0)", maker, x -> x.say(0, 0, 0));
        bad(where + "ear(6)", maker, x -> x.ear(6));
        bad(where + "type(128)", maker, x -> x.type(128));
        bad(where + "strips(4)", maker, x -> x.strips(4));
        bad(where + "papers(4)", maker, x -> x.papers(4));
        bad(where + "goes(0, 4)", maker, x -> x.goes(0, 4));
        bad(where + "minutes(0)", maker, x -> x.minutes(0));
        bad(where + "minutes(100)", maker, x -> x.minutes(100));
        bad(where + "of(0, 3)", maker, x -> x.of(0, 3));
        bad(where + "about(0, 4)", maker, x -> x.about(0, 4));
        bad(where + "room(4, 0)", maker, x -> x.room(4, 0));
        bad(where + "room(0, 2)", maker, x -> x.room(0, 2));
        bad(where + "loud(0, 30)", maker, x -> x.loud(0, 30));
        bad(where + "stay(0, 0, 0, 4)", maker, x -> x.stay(0, 0, 0, 4));
        bad(where + "stay(0, 0, 0, -2)", maker, x -> x.stay(0, 0, 0, -2));
        bad(where + "stand(0, 0)", maker, x -> x.stand(0, 0));
        bad(where + "stand(31, 0)", maker, x -> x.stand(31, 0));
        bad(where + "stand(1, 2)", maker, x -> x.stand(1, 2));
        bad(where + "told(4, 0, 0)", maker, x -> x.told(4, 0, 0));
        bad(where + "told(0, 30, 0)", maker, x -> x.told(0, 30, 0));
        bad(where + "told(0, 0, 100)", maker, x -> x.told(0, 0, 100));
        bad(where + "said(4, 0)", maker, x -> x.said(4, 0));
        bad(where + "said(0, 3)", maker, x -> x.said(0, 3));
        bad(where + "forget(3)", maker, x -> x.forget(3));
        bad(where + "forget(-1)", maker, x -> x.forget(-1));
        refused(where + "brothers(-2)", maker, x -> x.brothers(-2), -10, 0);
        bad(where + "jobs(1000000, 1)", maker, x -> x.jobs(1000000, 1));
        bad(where + "jobs(-1, 1)", maker, x -> x.jobs(-1, 1));
        bad(where + "jobs(0, 61)", maker, x -> x.jobs(0, 61));
        bad(where + "jobs(0, -1)", maker, x -> x.jobs(0, -1));
        bad(where + "part(2)", maker, x -> x.part(2));
        bad(where + "image(2)", maker, x -> x.image(2));
        bad(where + "image(-1)", maker, x -> x.image(-1));
        bad(where + "from(2)", maker, x -> x.from(2));
        bad(where + "from(-1)", maker, x -> x.from(-1));
        refused(where + "status(3)", maker, x -> x.status(3), -1, 0);
        refused(where + "status(-1)", maker, x -> x.status(-1), -1, 0);
        bad(where + "count(10)", maker, x -> x.count(10));
    }

    /** So many sayings and listeners there are: those numbers themselves are of none. */
    private static void notThere(String where, Supplier<PaperHears> maker, int s, int i) {
        bad(where + "of(" + s + ", 0)", maker, x -> x.of(s, 0));
        bad(where + "loud(" + s + ", 0)", maker, x -> x.loud(s, 0));
        bad(where + "first(0, " + s + ")", maker, x -> x.first(0, s));
        bad(where + "note(" + s + ", 1, 0, 0)", maker, x -> x.note(s, 1, 0, 0));
        bad(where + "is(" + s + ")", maker, x -> x.is(s));
        bad(where + "look(" + s + ")", maker, x -> x.look(s));
        bad(where + "holds(0, " + s + ", 0)", maker, x -> x.holds(0, s, 0));
        bad(where + "goes(" + i + ", 1)", maker, x -> x.goes(i, 1));
        bad(where + "about(" + i + ", 0)", maker, x -> x.about(i, 0));
        bad(where + "first(" + i + ", 0)", maker, x -> x.first(i, 0));
        bad(where + "stay(" + i + ", 0, 0, 0)", maker, x -> x.stay(i, 0, 0, 0));
        bad(where + "mark(" + i + ", 0, 0, 0)", maker, x -> x.mark(i, 0, 0, 0));
        bad(where + "kinds(" + i + ")", maker, x -> x.kinds(i));
        bad(where + "ask(" + i + ")", maker, x -> x.ask(i));
        bad(where + "holds(" + i + ", 0, 0)", maker, x -> x.holds(i, 0, 0));
    }

    /** "Nothing is changed by these": what is heard, what was said, and what there is. */
    private static void asked() {
        List<Supplier<PaperHears>> makers = List.of(RefusalTest::some, RefusalTest::full, RefusalTest::last);
        for (Supplier<PaperHears> maker : makers) {
            changesNothing("of(1, 2)", maker, x -> x.of(1, 2));
            changesNothing("about(1, 3)", maker, x -> x.about(1, 3));
            changesNothing("room(0, 1)", maker, x -> x.room(0, 1));
            changesNothing("loud(1, 29)", maker, x -> x.loud(1, 29));
            changesNothing("first(0, 0)", maker, x -> x.first(0, 0));
            changesNothing("first(1, 1)", maker, x -> x.first(1, 1));
            changesNothing("stay(0, 3, 0, 0)", maker, x -> x.stay(0, 3, 0, 0));
            changesNothing("stay(1, 1, 2, -1)", maker, x -> x.stay(1, 1, 2, -1));
            changesNothing("stand(30, 0)", maker, x -> x.stand(30, 0));
            changesNothing("stand(1, 1)", maker, x -> x.stand(1, 1));
            changesNothing("said(0, 0)", maker, x -> x.said(0, 0));
            changesNothing("said(0, 1)", maker, x -> x.said(0, 1));
            changesNothing("said(3, 2)", maker, x -> x.said(3, 2));
            changesNothing("is(1)", maker, x -> x.is(1));
            changesNothing("look(1)", maker, x -> x.look(1));
            changesNothing("kinds(0)", maker, x -> x.kinds(0));
            changesNothing("ask(0)", maker, x -> x.ask(0));
            changesNothing("brothers(-1)", maker, x -> x.brothers(-1));
            changesNothing("brothers(0)", maker, x -> x.brothers(0));
            changesNothing("brothers(16)", maker, x -> x.brothers(16));
            changesNothing("jobs(0, 60)", maker, x -> x.jobs(0, 60));
            changesNothing("jobs(999999, 60)", maker, x -> x.jobs(999999, 60));
            changesNothing("jobs(5, 0)", maker, x -> x.jobs(5, 0));
            changesNothing("part(0)", maker, x -> x.part(0));
            changesNothing("part(1)", maker, x -> x.part(1));
            changesNothing("status(0)", maker, x -> x.status(0));
            changesNothing("status(2)", maker, x -> x.status(2));
            changesNothing("count(4)", maker, x -> x.count(4));
            changesNothing("digest()", maker, x -> x.digest());
        }
    }

    /** "-10 less the FAULT: all stays." */
    private static void faults() {
        String[] texts = {"", "x", "house", "house;house;", "house;say 0 0 9;ear 0 0;strip 0;minutes 9;strip 4;",
            "house;say 0 0 1;say 0 0 1;say 0 0 1;say 0 0 1;say 0 0 1;say 0 0 1;say 0 0 1;say 0 0 1;say 0 0 1;"};
        for (String text : texts) {
            changesNothing("read() of '" + text + "'", () -> withText(text), x -> x.read());
        }
    }

    private static PaperHears withText(String text) {
        PaperHears x = some();
        x.clear();
        type(x, text);
        return x;
    }

    /** Of HOLDS nothing is left but THE FRACTION of the last one. */
    private static void chances() {
        List<Supplier<PaperHears>> makers = List.of(RefusalTest::some, RefusalTest::full, RefusalTest::last);
        for (Supplier<PaperHears> maker : makers) {
            PaperHears x = maker.get();
            PaperHears y = maker.get();
            due("holds(1, 0, 3)", x.holds(1, 0, 3), 1);
            due("holds(0, 1, 10)", x.holds(0, 1, 10), 1);
            due("holds(0, 0, 5)", x.holds(0, 0, 5), 1);
            due("holds(0, 0, 5)", y.holds(0, 0, 5), 1);
            alike("holds", x, y, -1);
        }
    }
}
