import java.util.List;

/**
 * "What is refused changes nothing": each call that a sentence refuses, in several states, and all that can be seen
 * of the object behind it. And calls that only tell something change nothing either.
 */
public final class RefusalTest {
    private static final int NONE = Made.NONE, FULL = Made.FULL, RING = Made.RING, EMPTY = Made.EMPTY;
    private static final int OPEN = Made.OPEN, NOTHING = -2;
    private static final int AGAIN = Made.AGAIN, HARD = Made.HARD, GOOD = Made.GOOD, EASY = Made.EASY;
    private static final int[] FAR_OFF = {Integer.MIN_VALUE, -2, -1, 500, Integer.MAX_VALUE};

    private final String state;
    private final Run run;
    private final int[] cards;
    private final List<String> before;

    private RefusalTest(String state, Run run, int... cards) {
        this.state = state;
        this.run = run;
        this.cards = cards;
        before = Picture.behind(run, cards);
    }

    public static void main(String[] args) {
        picturesDiffer();
        onANewObject();
        midway();
        whenAllIsFull();
        whenAllIsOver();
        Dues.end("RefusalTest");
    }

    private void refused(String name, Run.Call call, long want) {
        LessonCards x = run.lived();
        Dues.due(state + ": " + name, call.on(x), want);
        Dues.due(state + ": " + name + " once more", call.on(x), want);
        unchanged(name, call);
    }

    private void unchanged(String name, Run.Call call) {
        List<String> behind = Picture.behind(run.and(call), cards);
        boolean same = before.equals(behind);
        Dues.holds(state + ": " + name + " changes nothing" + (same ? "" : Picture.difference(before, behind)), same);
    }

    /** The pictures are sharp enough to see each call that does change something. */
    private static void picturesDiffer() {
        Run run = midwayRun();
        List<String> before = Picture.behind(run, 0, 1, 2, 3);
        Run.Call[] calls = {
            x -> x.card(1), x -> x.lean(3, 2), x -> x.rule(2), x -> x.table(0, 201), x -> x.table(3, 2999),
            x -> x.most(60, 1), x -> x.most(1, 10), x -> x.day(2, 1), x -> x.start(1), x -> x.answer(0, AGAIN),
            x -> x.skip(0), x -> x.bury(0, 3, 2), x -> x.bury(3, 0, 0), x -> x.undo(), x -> x.even(2, 0),
            x -> x.test(5, 100, 250), x -> x.test(8, 100, 250), x -> x.told(1, 1)};
        for (int i = 0; i < calls.length; i++) {
            Dues.holds("call " + i + " is seen", !before.equals(Picture.behind(run.and(calls[i]), 0, 1, 2, 3)));
        }
    }

    private static void onANewObject() {
        RefusalTest t = new RefusalTest("new", new Run(), 0, 1);
        t.noNumbers();
        t.noPupils();
        t.noSides(0, 0);
        t.noSides(-1, 0);
        t.noDays();
        t.refused("undo", LessonCards::undo, EMPTY);
        for (int pupil = 0; pupil < 4; pupil++) {
            t.nothingInTheRow(pupil);
        }
        t.noTest();
        t.refused("lean of no cards", x -> x.lean(0, 1), NONE);
        t.refused("lean of no card on itself", x -> x.lean(0, 0), NONE);
        t.noLog(0);
        t.refused("load before any even()", x -> x.load(0), NONE);
        t.refused("weight before any test()", x -> x.weight(0), NONE);
        t.quiet();
    }

    /** Cards that lean, answers by each rule, THE ROW of pupil 0 begun, one BURIED, a test begun. */
    private static Run midwayRun() {
        Run run = new Run();
        run.then(x -> x.card(2)).then(x -> x.card(1)).then(x -> x.card(4)).then(x -> x.card(3));
        run.then(x -> x.lean(1, 0)).then(x -> x.lean(3, 1)).then(x -> x.most(7, 3)).then(x -> x.table(1, 1500));
        run.then(x -> x.start(0)).then(x -> x.answer(0, HARD)).then(x -> x.answer(0, AGAIN));
        run.then(x -> x.answer(0, GOOD)).then(x -> x.rule(1)).then(x -> x.start(0)).then(x -> x.answer(0, GOOD));
        run.then(x -> x.day(0, 1)).then(x -> x.start(0)).then(x -> x.answer(0, GOOD)).then(x -> x.day(0, 3));
        run.then(x -> x.rule(2)).then(x -> x.start(2)).then(x -> x.answer(2, EASY)).then(x -> x.answer(2, AGAIN));
        run.then(x -> x.day(2, 9)).then(x -> x.rule(1)).then(x -> x.bury(0, 2, 1)).then(x -> x.bury(0, 3, 0));
        run.then(x -> x.start(0)).then(x -> x.answer(0, AGAIN)).then(x -> x.even(0, 3));
        run.then(x -> x.test(5, 100, 250)).then(x -> x.told(2, 1));
        return run;
    }

    private static void midway() {
        RefusalTest t = new RefusalTest("midway", midwayRun(), 0, 1, 2, 3);
        LessonCards x = t.run.lived();
        Dues.holds("midway: THE ROW has more than one", x.pupil(0, 4) > 1);
        Dues.due("midway: THE LOG", x.log(), 8);
        t.noNumbers();
        t.noPupils();
        t.noSides(0, 2);
        t.noSides(1, 1);
        t.noSides(3, 3);
        t.noSides(4, 0);
        t.noSides(-1, 0);
        t.noSides(1 << 30, 0);
        t.noDays();
        t.refused("start of an open ROW", y -> y.start(0), OPEN);
        for (int pupil = 1; pupil < 4; pupil++) {
            t.nothingInTheRow(pupil);
        }
        t.refused("bury of a BURIED side", y -> y.bury(0, 2, 1), NONE);
        t.refused("lean as it does already", y -> y.lean(1, 0), NONE);
        t.refused("lean on itself", y -> y.lean(2, 2), NONE);
        t.refused("a ring of two", y -> y.lean(0, 1), RING);
        t.refused("a ring of three", y -> y.lean(0, 3), RING);
        t.refused("question 5 of 5 levels", y -> y.told(5, 1), NONE);
        t.refused("question 0", y -> y.told(0, 1), NONE);
        t.refused("neither right nor wrong", y -> y.told(1, 2), NONE);
        t.refused("neither right nor wrong", y -> y.told(1, -1), NONE);
        t.refused("weight of level 5", y -> y.weight(5), NONE);
        t.noLog(8);
        t.quiet();
    }

    /** All 120 cards, one with four leans; pupil 1 on the last day, with one side in its ROW. */
    private static void whenAllIsFull() {
        Run run = new Run();
        for (int i = 0; i < 120; i++) {
            run.then(x -> x.card(1));
        }
        for (int i = 0; i < 4; i++) {
            int b = 1 + i;
            run.then(x -> x.lean(0, b));
        }
        for (int i = 0; i < 100; i++) {
            run.then(x -> x.day(1, 1000));
        }
        run.then(x -> x.most(3, 1)).then(x -> x.start(1)).then(x -> x.start(0)).then(x -> x.answer(0, GOOD));
        run.then(x -> x.lean(6, 0));
        RefusalTest t = new RefusalTest("full", run, 0, 1, 5, 6, 119);
        for (int sides = 1; sides <= 4; sides++) {
            int n = sides;
            t.refused("card(" + n + ")", x -> x.card(n), FULL);
        }
        t.refused("card(0)", x -> x.card(0), NONE);
        t.refused("card(5)", x -> x.card(5), NONE);
        t.refused("a fifth lean", x -> x.lean(0, 5), FULL);
        t.refused("a fifth lean, a ring", x -> x.lean(0, 6), RING);
        t.refused("a lean as it is", x -> x.lean(0, 4), NONE);
        t.refused("a lean on card 120", x -> x.lean(0, 120), NONE);
        t.refused("a lean of card 120", x -> x.lean(120, 0), NONE);
        for (int n : new int[] {1, 2, 999, 1000, 1001, 0}) {
            t.refused("day(1, " + n + ")", x -> x.day(1, n), NONE);
        }
        t.refused("start of an open ROW", x -> x.start(1), OPEN);
        t.noSides(119, 1);
        t.noSides(120, 0);
        t.noLog(1);
    }

    /** A test that is OVER, a LEECH, and THE LOG empty again for pupil 0 alone. */
    private static void whenAllIsOver() {
        Run run = new Run();
        run.then(x -> x.card(1)).then(x -> x.card(2)).then(x -> x.test(2, 100, 100)).then(x -> x.told(1, 1));
        for (int i = 0; i < 8; i++) {
            if (i % 3 == 0) {
                run.then(x -> x.day(0, 1)).then(x -> x.bury(0, 1, 0)).then(x -> x.bury(0, 1, 1));
                run.then(x -> x.start(0));
            }
            run.then(x -> x.answer(0, AGAIN));
        }
        run.then(x -> x.start(3)).then(x -> x.answer(3, GOOD)).then(x -> x.undo());
        RefusalTest t = new RefusalTest("over", run, 0, 1);
        Dues.due("over: a LEECH", run.lived().memory(0, 0, 0, 8), 1);
        t.noTest();
        t.refused("when of a LEECH", x -> x.when(0, 0, 0), NONE);
        t.refused("when of a NEW side", x -> x.when(0, 1, 0), NONE);
        t.refused("bury of a BURIED side", x -> x.bury(0, 1, 1), NONE);
        t.refused("put before any even()", x -> x.put(0, 0), NONE);
        t.refused("weight of level 2", x -> x.weight(2), NONE);
        t.nothingInTheRow(0);
        t.nothingInTheRow(3);
        t.noLog(8);
        t.quiet();
    }

    /** Numbers that are not as said, whatever the state is. */
    private void noNumbers() {
        for (int n : new int[] {0, 5, -1, Integer.MIN_VALUE, Integer.MAX_VALUE}) {
            refused("card(" + n + ")", x -> x.card(n), NONE);
        }
        for (int r : new int[] {-1, 3, Integer.MIN_VALUE, Integer.MAX_VALUE}) {
            refused("rule(" + r + ")", x -> x.rule(r), NONE);
            refused("surprise by rule " + r, x -> x.surprise(0, r), NONE);
        }
        for (int v : new int[] {0, 100001, -1, Integer.MIN_VALUE, Integer.MAX_VALUE}) {
            refused("table(0, " + v + ")", x -> x.table(0, v), NONE);
            refused("table(3, " + v + ")", x -> x.table(3, v), NONE);
        }
        for (int a : new int[] {-1, 4, Integer.MIN_VALUE, Integer.MAX_VALUE}) {
            refused("table(" + a + ", 1)", x -> x.table(a, 1), NONE);
            refused("answer(0, " + a + ")", x -> x.answer(0, a), NONE);
            refused("answer(3, " + a + ")", x -> x.answer(3, a), NONE);
        }
        int[][] most = {{-1, 5}, {401, 5}, {5, -1}, {5, 101}, {Integer.MAX_VALUE, 5}, {5, Integer.MIN_VALUE}};
        for (int[] one : most) {
            refused("most(" + one[0] + ", " + one[1] + ")", x -> x.most(one[0], one[1]), NONE);
        }
        for (int what : new int[] {-1, 6, Integer.MIN_VALUE, Integer.MAX_VALUE}) {
            refused("pupil(0, " + what + ")", x -> x.pupil(0, what), NONE);
        }
        int[][] tests = {{1, 9, 9}, {9, 9, 9}, {4, 0, 9}, {4, 500, 9}, {4, 9, 0}, {4, 9, 500}, {0, 9, 9}, {4, -1, 9},
            {Integer.MAX_VALUE, 9, 9}, {Integer.MIN_VALUE, 9, 9}};
        for (int[] one : tests) {
            refused("test of " + one[0] + ", " + one[1] + ", " + one[2], x -> x.test(one[0], one[1], one[2]), NONE);
        }
    }

    /** Days that are none: for day(), plan(), even() and load(). */
    private void noDays() {
        for (int n : new int[] {0, 1001, -1, Integer.MIN_VALUE, Integer.MAX_VALUE}) {
            refused("day(0, " + n + ")", x -> x.day(0, n), NONE);
            refused("day(3, " + n + ")", x -> x.day(3, n), NONE);
        }
        for (int n : new int[] {-1, 60, 61, Integer.MIN_VALUE, Integer.MAX_VALUE}) {
            refused("plan(0, " + n + ")", x -> x.plan(0, n), NONE);
        }
        for (int w : new int[] {-1, 21, 22, Integer.MIN_VALUE, Integer.MAX_VALUE}) {
            refused("even(0, " + w + ")", x -> x.even(0, w), NONE);
        }
        for (int n : new int[] {-1, 81, 82, Integer.MIN_VALUE, Integer.MAX_VALUE}) {
            refused("load(" + n + ")", x -> x.load(n), NONE);
        }
    }

    private void noPupils() {
        for (int p : new int[] {-1, 4, 5, Integer.MIN_VALUE, Integer.MAX_VALUE}) {
            refused("day of pupil " + p, x -> x.day(p, 1), NONE);
            refused("start of pupil " + p, x -> x.start(p), NONE);
            refused("next of pupil " + p, x -> x.next(p), NONE);
            refused("answer of pupil " + p, x -> x.answer(p, GOOD), NONE);
            refused("skip of pupil " + p, x -> x.skip(p), NONE);
            refused("bury of pupil " + p, x -> x.bury(p, 0, 0), NONE);
            refused("memory of pupil " + p, x -> x.memory(p, 0, 0, 0), NOTHING);
            refused("when of pupil " + p, x -> x.when(p, 0, 0), NONE);
            refused("pupil " + p, x -> x.pupil(p, 0), NONE);
            refused("known of pupil " + p, x -> x.known(p, 0), NONE);
            refused("plan of pupil " + p, x -> x.plan(p, 0), NONE);
            refused("even of pupil " + p, x -> x.even(p, 0), NONE);
            refused("surprise of pupil " + p, x -> x.surprise(p, 0), NONE);
            refused("better of pupil " + p, x -> x.better(p), NONE);
            refused("other of pupil " + p, x -> x.other(p, 0, 0, 0), NONE);
            refused("check of pupil " + p, x -> x.check(p), NONE);
        }
    }

    /** A card with so many sides (0: there is no such card): sides beside them, and what else is asked of one. */
    private void noSides(int card, int sides) {
        for (int side : new int[] {-1, sides, sides + 1, 4, 8, Integer.MIN_VALUE, Integer.MAX_VALUE}) {
            String where = " of " + card + ", " + side;
            refused("bury" + where, x -> x.bury(0, card, side), NONE);
            refused("bury by the last pupil" + where, x -> x.bury(3, card, side), NONE);
            refused("memory" + where, x -> x.memory(0, card, side, 0), NOTHING);
            refused("when" + where, x -> x.when(0, card, side), NONE);
            refused("mean" + where, x -> x.mean(card, side), NONE);
            refused("put" + where, x -> x.put(card, side), NONE);
            refused("other" + where, x -> x.other(0, 0, card, side), NONE);
        }
        if (sides == 0) {
            refused("known of " + card, x -> x.known(0, card), NONE);
            refused("lean of " + card, x -> x.lean(card, 0), NONE);
            refused("lean on " + card, x -> x.lean(0, card), NONE);
        } else {
            for (int what : new int[] {-1, 10, 11, Integer.MIN_VALUE, Integer.MAX_VALUE}) {
                refused("memory of " + card + ", what " + what, x -> x.memory(0, card, 0, what), NOTHING);
            }
            for (int rule : new int[] {-1, 3, Integer.MIN_VALUE, Integer.MAX_VALUE}) {
                refused("other of " + card + " by " + rule, x -> x.other(0, rule, card, 0), NONE);
            }
        }
    }

    private void nothingInTheRow(int pupil) {
        refused("next of pupil " + pupil, x -> x.next(pupil), EMPTY);
        refused("skip of pupil " + pupil, x -> x.skip(pupil), EMPTY);
        for (int answer = AGAIN; answer <= EASY; answer++) {
            int a = answer;
            refused("answer " + a + " of pupil " + pupil, x -> x.answer(pupil, a), EMPTY);
        }
        refused("no answer of pupil " + pupil, x -> x.answer(pupil, 4), NONE);
    }

    /** No test has begun, or it is OVER: EMPTY ahead of NONE. */
    private void noTest() {
        for (int question = -1; question <= 8; question++) {
            int q = question;
            refused("told(" + q + ", 0)", x -> x.told(q, 0), EMPTY);
            refused("told(" + q + ", 1)", x -> x.told(q, 1), EMPTY);
            refused("told(" + q + ", 2)", x -> x.told(q, 2), EMPTY);
        }
        for (int far : FAR_OFF) {
            refused("told(" + far + ", 1)", x -> x.told(far, 1), EMPTY);
            refused("told(1, " + far + ")", x -> x.told(1, far), EMPTY);
        }
    }

    /** THE LOG has so many answers. */
    private void noLog(int answers) {
        for (int i : new int[] {-1, answers, answers + 1, 2999, 3000, Integer.MIN_VALUE, Integer.MAX_VALUE}) {
            for (int what = 0; what < 5; what++) {
                int w = what;
                refused("logged(" + i + ", " + w + ")", x -> x.logged(i, w), NONE);
            }
        }
        for (int what : new int[] {-1, 5, 6, Integer.MIN_VALUE, Integer.MAX_VALUE}) {
            refused("logged(0, " + what + ")", x -> x.logged(0, what), NONE);
        }
    }

    /** "Nothing changes by it": calls that tell what is, was, or would be. */
    private void quiet() {
        for (int pupil = 0; pupil < 4; pupil++) {
            int p = pupil;
            unchanged("next", x -> x.next(p));
            unchanged("check", x -> x.check(p));
            unchanged("better", x -> x.better(p));
            for (int n : new int[] {0, 1, 7, 59}) {
                unchanged("plan", x -> x.plan(p, n));
            }
            for (int i = 0; i < 6; i++) {
                int n = i;
                unchanged("pupil", x -> x.pupil(p, n));
                unchanged("surprise", x -> x.surprise(p, n % 3));
            }
            for (int card : cards) {
                unchanged("known", x -> x.known(p, card));
                unchanged("when", x -> x.when(p, card, 0));
                unchanged("mean", x -> x.mean(card, p));
                unchanged("put", x -> x.put(card, p));
                for (int i = 0; i < 10; i++) {
                    int n = i;
                    unchanged("memory", x -> x.memory(p, card, n % 2, n));
                    unchanged("other", x -> x.other(p, n % 3, card, n % 4));
                }
            }
        }
        unchanged("log", LessonCards::log);
        unchanged("logged", x -> x.logged(0, 4));
        unchanged("load", x -> x.load(1));
        unchanged("weight", x -> x.weight(1));
        unchanged("level", LessonCards::level);
    }
}
