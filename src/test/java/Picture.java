import java.util.ArrayList;
import java.util.List;

/**
 * All that can be seen of an object behind a run: what it tells when asked, and what calls that change it come to.
 * As each object is promised for 512 calls alone, the run is lived again as often as that takes.
 */
final class Picture {
    private static final int MOST_LOGGED = 40;
    private static final int[] PLANNED = {0, 1, 2, 3, 5, 8, 13, 21, 34, 59};

    private final Run run;
    private final int[] cards;
    private final List<String> seen = new ArrayList<>();
    private LessonCards asked;
    private int callsLeft = 0;

    private Picture(Run run, int[] cards) {
        this.run = run;
        this.cards = cards;
    }

    /** What is seen behind a run, looking at these cards more closely. */
    static List<String> behind(Run run, int... cards) {
        Picture picture = new Picture(run, cards);
        picture.askAll();
        picture.tryAll();
        return picture.seen;
    }

    /** What differs between two pictures, at most a few lines of it. */
    static String difference(List<String> one, List<String> other) {
        StringBuilder text = new StringBuilder();
        int lines = 0;
        for (int i = 0; i < one.size() && i < other.size() && lines < 5; i++) {
            if (!one.get(i).equals(other.get(i))) {
                text.append("\n    ").append(one.get(i)).append("; then ").append(other.get(i));
                lines++;
            }
        }
        return text.toString();
    }

    private void ask(String name, Run.Call call) {
        if (callsLeft == 0) {
            asked = run.lived();
            callsLeft = Run.CALLS - run.size();
        }
        callsLeft--;
        seen.add(name + " = " + call.on(asked));
    }

    private void askAll() {
        for (int pupil = 0; pupil < 4; pupil++) {
            askOfPupil(pupil);
        }
        for (int card : cards) {
            for (int side = 0; side < 4; side++) {
                int s = side;
                ask("mean of " + card + ", " + s, x -> x.mean(card, s));
                ask("put of " + card + ", " + s, x -> x.put(card, s));
            }
        }
        for (int n = 0; n <= 80; n++) {
            int day = n;
            ask("load of " + n, x -> x.load(day));
        }
        for (int i = 0; i < 9; i++) {
            int level = i;
            ask("weight of " + i, x -> x.weight(level));
        }
        ask("level", LessonCards::level);
        ask("log", LessonCards::log);
        for (int i = 0; i < MOST_LOGGED; i++) {
            int entry = i;
            for (int what = 0; what < 5; what++) {
                int w = what;
                ask("logged " + i + ", " + w, x -> x.logged(entry, w));
            }
        }
    }

    private void askOfPupil(int p) {
        ask("next of " + p, x -> x.next(p));
        ask("check of " + p, x -> x.check(p));
        ask("better of " + p, x -> x.better(p));
        for (int i = 0; i < 6; i++) {
            int what = i;
            ask("pupil " + p + ", " + i, x -> x.pupil(p, what));
        }
        for (int i = 0; i < 3; i++) {
            int rule = i;
            ask("surprise of " + p + ", " + i, x -> x.surprise(p, rule));
        }
        for (int n : PLANNED) {
            ask("plan of " + p + ", " + n, x -> x.plan(p, n));
        }
        for (int card : cards) {
            ask("known of " + p + ", " + card, x -> x.known(p, card));
            for (int side = 0; side < 4; side++) {
                askOfSide(p, card, side);
            }
        }
    }

    private void askOfSide(int p, int card, int side) {
        String where = p + ", " + card + ", " + side;
        ask("when of " + where, x -> x.when(p, card, side));
        for (int i = 0; i < 10; i++) {
            int what = i;
            ask("memory of " + where + ", " + i, x -> x.memory(p, card, side, what));
        }
        for (int i = 0; i < 3; i++) {
            int rule = i;
            ask("other of " + where + ", " + i, x -> x.other(p, rule, card, side));
        }
    }

    /** Calls that change an object each have an object of their own. */
    private void tryAll() {
        see("card", run.lived().card(4));
        see("rule", run.lived().rule(0));
        for (int answer = 0; answer < 4; answer++) {
            see("table of " + answer, run.lived().table(answer, 7));
        }
        for (int a : cards) {
            for (int b : cards) {
                see("lean of " + a + ", " + b, run.lived().lean(a, b));
            }
        }
        tryTest(run.lived());
        tryUndo(run.lived());
        for (int pupil = 0; pupil < 4; pupil++) {
            tryRow(run.lived(), pupil);
            tryNextDay(run.lived(), pupil);
            tryEven(run.lived(), pupil);
        }
    }

    private void see(String name, long answer) {
        seen.add(name + " comes to " + answer);
    }

    private void tryTest(LessonCards x) {
        for (int i = 0; i < 7; i++) {
            see("told, " + i, x.told(1, i % 2));
            see("its weights", x.weight(0) * 31 + x.weight(1));
        }
    }

    private void tryUndo(LessonCards x) {
        int left = 1;
        for (int i = 0; i < MOST_LOGGED && left > 0; i++) {
            int last = x.log() - 1;
            int pupil = x.logged(last, 0);
            int card = x.logged(last, 1);
            int side = x.logged(last, 2);
            left = x.undo();
            see("undo, " + i, left);
            for (int what = 0; what < 5; what++) {
                see("what it was, " + what, x.memory(pupil, card, side, what));
            }
        }
    }

    /** What is asked today, and how often each side comes back: AGAIN, till nothing is left. */
    private void tryRow(LessonCards x, int pupil) {
        see("start of " + pupil, x.start(pupil));
        for (int i = 0; i < 25 && x.pupil(pupil, 4) > 0; i++) {
            see("next of " + pupil, x.next(pupil));
            see("skip of " + pupil, x.skip(pupil));
            see("next of " + pupil, x.next(pupil));
            see("answer of " + pupil, x.answer(pupil, 0));
        }
    }

    /** Who comes tomorrow, by MOST DUE and MOST NEW. */
    private void tryNextDay(LessonCards x, int pupil) {
        see("day of " + pupil, x.day(pupil, 1));
        int size = x.start(pupil);
        see("start of " + pupil, size);
        for (int i = 0; i < size && i < 60; i++) {
            see("next of " + pupil, x.next(pupil));
            x.skip(pupil);
        }
    }

    private void tryEven(LessonCards x, int pupil) {
        see("even of " + pupil, x.even(pupil, 2));
        for (int n = 0; n < 10; n++) {
            see("its load of " + n, x.load(n));
        }
    }
}
