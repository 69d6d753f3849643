/** A test for each promise, by its number: ordinary calls, the edges that the document names, wrong calls. */
public final class PromiseTest {
    private static final int NONE = -1, FULL = -2, RING = -3, EMPTY = -4, OPEN = -5;
    private static final int AGAIN = 0, HARD = 1, GOOD = 2, EASY = 3;
    private static final int[] NO_PUPILS = {-1, 4, Integer.MIN_VALUE, Integer.MAX_VALUE};

    public static void main(String[] args) {
        newObject();
        firstNumbers();
        card();
        lean();
        leanedCardsWait();
        rule();
        table();
        most();
        day();
        lastDay();
        startByChance();
        startCutOff();
        startFresh();
        next();
        answerByBoxes();
        answerByStrengths();
        strengthsBounds();
        answerByTable();
        answerBacks();
        answerRefused();
        logIsFull();
        skip();
        bury();
        undo();
        undoLeavesBacks();
        memory();
        chanceAndDue();
        leech();
        when();
        pupil();
        known();
        mean();
        plan();
        planBySides();
        even();
        evenEdges();
        loadAndPut();
        test();
        testIsOver();
        longTest();
        log();
        surprise();
        better();
        other();
        check();
        manyCards();
        manySides();
        Dues.end("PromiseTest");
    }

    private static void due(String call, long got, long want) {
        Dues.due(call, got, want);
    }

    private static LessonCards withCards(int cards) {
        return Made.likeCards(cards);
    }

    private static void startAndAnswer(LessonCards x, int answer) {
        Made.startAndAnswer(x, answer);
    }

    /** One card with one side, answered once by a rule on day 0 by pupil 0. */
    private static LessonCards answeredOnce(int rule, int answer) {
        LessonCards x = withCards(1);
        x.rule(rule);
        x.start(0);
        x.answer(0, answer);
        x.bury(0, 0, 0);
        return x;
    }

    /** The side is asked again some days later; it has to be DUE then. */
    private static void again(LessonCards x, int days, int answer) {
        x.day(0, days);
        due("start(0) for one more", x.start(0), 1);
        x.answer(0, answer);
        x.bury(0, 0, 0);
    }

    /** Any side is DUE by then. */
    private static void againLongBehind(LessonCards x, int answer) {
        for (int i = 0; i < 4; i++) {
            x.day(0, 1000);
        }
        again(x, 1000, answer);
    }

    private static void strengthAndEase(String what, LessonCards x, int strength, int ease) {
        due(what + ": STRENGTH", x.memory(0, 0, 0, 0), strength);
        due(what + ": EASE", x.memory(0, 0, 0, 1), ease);
    }

    // promise 1
    private static void newObject() {
        LessonCards x = new LessonCards();
        due("1 log", x.log(), 0);
        for (int p = 0; p < 4; p++) {
            for (int what = 0; what < 6; what++) {
                due("1 pupil", x.pupil(p, what), 0);
            }
            due("1 next", x.next(p), EMPTY);
            due("1 start", x.start(p), 0);
            due("1 plan", x.plan(p, 0), 0);
            due("1 check", x.check(p), 1);
            due("1 better", x.better(p), 0);
            due("1 surprise", x.surprise(p, 1), 0);
        }
        due("1 undo", x.undo(), EMPTY);
        due("1 level", x.level(), NONE);
        due("1 weight", x.weight(0), NONE);
        due("1 told", x.told(1, 1), EMPTY);
        due("1 load", x.load(0), NONE);
        due("1 put", x.put(0, 0), NONE);
        due("1 memory of no card", x.memory(0, 0, 0, 0), -2);
        due("1 card", x.card(3), 0);
        for (int p = 0; p < 4; p++) {
            due("1 STRENGTH", x.memory(p, 0, 2, 0), 0);
            due("1 EASE", x.memory(p, 0, 2, 1), 2500);
            due("1 BOX", x.memory(p, 0, 2, 2), 0);
            due("1 DAY", x.memory(p, 0, 2, 3), -1);
            due("1 AGAINS", x.memory(p, 0, 2, 4), 0);
        }
    }

    private static void firstNumbers() {
        LessonCards x = withCards(70);
        due("1 rule", x.rule(0), 0);
        due("1 table 0", x.table(0, 200), 200);
        due("1 table 1", x.table(1, 1000), 1000);
        due("1 table 2", x.table(2, 2000), 2000);
        due("1 table 3", x.table(3, 3000), 3000);
        for (int day = 0; day < 7; day++) {
            due("6 MOST NEW is 10 at first, day " + day, x.start(0), 10 * day + 10);
            for (int i = 0; i < 10 * day + 10; i++) {
                x.answer(0, HARD);
            }
            x.day(0, 1);
        }
        due("6 MOST DUE is 60 at first", x.start(0), 60);
    }

    // promise 2
    private static void card() {
        LessonCards x = new LessonCards();
        due("2 card(0)", x.card(0), NONE);
        due("2 card(5)", x.card(5), NONE);
        due("2 card(-1)", x.card(-1), NONE);
        due("2 card(least)", x.card(Integer.MIN_VALUE), NONE);
        for (int i = 0; i < 120; i++) {
            due("2 card", x.card(1 + i % 4), i);
        }
        due("2 a card too many", x.card(1), FULL);
        due("2 NONE ahead of FULL", x.card(0), NONE);
        due("2 last card's last side", x.memory(3, 119, 3, 0), 0);
        due("2 no further side", x.memory(3, 118, 3, 0), -2);
        due("2 sides", x.pupil(2, 2), 300);
    }

    // promise 3
    private static void lean() {
        LessonCards x = withCards(8);
        due("3 lean(0, 0)", x.lean(0, 0), NONE);
        due("3 lean(8, 0)", x.lean(8, 0), NONE);
        due("3 lean(0, 8)", x.lean(0, 8), NONE);
        due("3 lean(-1, 0)", x.lean(-1, 0), NONE);
        due("3 lean(0, -1)", x.lean(0, -1), NONE);
        due("3 first", x.lean(1, 0), 1);
        due("3 it does already", x.lean(1, 0), NONE);
        due("3 back", x.lean(0, 1), RING);
        due("3 chain", x.lean(2, 1), 1);
        due("3 chain", x.lean(3, 2), 1);
        due("3 long ring", x.lean(0, 3), RING);
        due("3 over the chain", x.lean(3, 0), 2);
        due("3 third", x.lean(3, 4), 3);
        due("3 fourth", x.lean(3, 5), 4);
        due("3 fifth", x.lean(3, 6), FULL);
        due("3 NONE ahead of FULL", x.lean(3, 5), NONE);
        due("3 leans on the full one", x.lean(7, 3), 1);
        due("3 RING ahead of FULL", x.lean(3, 7), RING);
        due("3 what was refused is not there", x.lean(6, 3), 1);
        due("3 two ways to one card are no ring", x.lean(7, 0), 2);
        due("3 the longest ring", x.lean(0, 7), RING);
        due("3 a way of its own", x.lean(4, 0), 1);
        due("3 over it", x.lean(1, 4), 2);
        due("3 a ring over both", x.lean(0, 1), RING);
        due("3 no ring", x.lean(5, 4), 1);
    }

    private static void leanedCardsWait() {
        LessonCards x = new LessonCards();
        x.card(2);
        x.card(1);
        x.card(1);
        x.lean(1, 0);
        x.lean(2, 1);
        due("3 only the first", x.start(0), 1);
        x.answer(0, GOOD);
        due("3 a side of it is NEW yet", x.start(0), 1);
        due("3 it is asked", x.next(0), 1);
        x.answer(0, GOOD);
        due("3 the second may come", x.start(0), 1);
        due("3 it is asked", x.next(0), 4);
        x.answer(0, GOOD);
        due("3 the third may come", x.start(0), 1);
        due("3 it is asked", x.next(0), 8);
        x.day(0, 2);
        due("3 all DUE, so nothing is KNOWN", x.start(0), 2);
        due("3 next", x.next(0), 0);
        x.answer(0, GOOD);
        due("3 next", x.next(0), 4);
        x.answer(0, GOOD);
        due("3 side 1 of card 0 is DUE yet; card 1 is KNOWN", x.start(0), 2);
        due("3 next", x.next(0), 1);
        due("3 another pupil has learnt nothing", x.start(1), 1);
    }

    // promise 4
    private static void rule() {
        LessonCards x = withCards(1);
        due("4 rule(3)", x.rule(3), NONE);
        due("4 rule(-1)", x.rule(-1), NONE);
        due("4 rule(2)", x.rule(2), 0);
        due("4 rule(1)", x.rule(1), 2);
        due("4 refused", x.rule(7), NONE);
        x.start(0);
        x.answer(0, EASY);
        due("4 by STRENGTHS", x.memory(0, 0, 0, 0), 6000);
        due("4 rule(0)", x.rule(0), 1);
        due("4 memories stay", x.memory(0, 0, 0, 0), 6000);
        x.start(1);
        x.answer(1, EASY);
        due("4 one for all pupils", x.memory(1, 0, 0, 0), 4000);
    }

    // promise 5
    private static void table() {
        LessonCards x = withCards(1);
        due("5 no answer -1", x.table(-1, 5), NONE);
        due("5 no answer 4", x.table(4, 5), NONE);
        due("5 number 0", x.table(0, 0), NONE);
        due("5 number 100001", x.table(0, 100001), NONE);
        due("5 least", x.table(0, 1), 200);
        due("5 most", x.table(0, 100000), 1);
        due("5 as told", x.table(0, 5), 100000);
        due("5 others stay", x.table(3, 9), 3000);
        due("5 others stay", x.table(1, 9), 1000);
    }

    // promise 6
    private static void most() {
        LessonCards x = withCards(20);
        due("6 most(-1, 0)", x.most(-1, 0), NONE);
        due("6 most(401, 0)", x.most(401, 0), NONE);
        due("6 most(0, -1)", x.most(0, -1), NONE);
        due("6 most(0, 101)", x.most(0, 101), NONE);
        due("6 refused changes nothing", x.start(1), 10);
        due("6 most(400, 100)", x.most(400, 100), 1);
        due("6 all new ones", x.start(0), 20);
        for (int i = 0; i < 20; i++) {
            x.answer(0, HARD);
        }
        x.day(0, 1);
        due("6 most(3, 0)", x.most(3, 0), 1);
        due("6 three DUE ones", x.start(0), 3);
        due("6 most(0, 0)", x.most(0, 0), 1);
        due("6 THE ROW stays as it was", x.pupil(0, 4), 3);
        due("6 none at all", x.start(2), 0);
    }

    // promise 7
    private static void day() {
        LessonCards x = withCards(2);
        for (int pupil : NO_PUPILS) {
            due("7 no pupil", x.day(pupil, 1), NONE);
        }
        due("7 day(0, 0)", x.day(0, 0), NONE);
        due("7 day(0, -1)", x.day(0, -1), NONE);
        due("7 day(0, 1001)", x.day(0, 1001), NONE);
        due("7 day(0, greatest)", x.day(0, Integer.MAX_VALUE), NONE);
        x.start(0);
        x.bury(0, 1, 0);
        due("7 refused", x.day(0, 0), NONE);
        due("7 refused leaves THE ROW", x.pupil(0, 4), 1);
        due("7 refused leaves BURIED", x.memory(0, 1, 0, 9), 1);
        due("7 day(0, 7)", x.day(0, 7), 7);
        due("7 THE ROW is empty", x.next(0), EMPTY);
        due("7 nothing is BURIED", x.memory(0, 1, 0, 9), 0);
        due("7 the others' day", x.pupil(1, 5), 0);
        due("7 day(0, 1000)", x.day(0, 1000), 1007);
        due("7 TODAY", x.pupil(0, 5), 1007);
        x.start(1);
        x.day(0, 1);
        due("7 the others' ROW", x.pupil(1, 4), 2);
    }

    private static void lastDay() {
        LessonCards x = withCards(1);
        for (int i = 1; i < 100; i++) {
            x.day(0, 1000);
        }
        due("7 near the end", x.day(0, 500), 99500);
        due("7 beyond 100000", x.day(0, 501), NONE);
        due("7 refused", x.pupil(0, 5), 99500);
        due("7 the end", x.day(0, 500), 100000);
        due("7 beyond the end", x.day(0, 1), NONE);
        x.rule(1);
        x.start(0);
        x.answer(0, EASY);
        due("15 a day beyond the last", x.when(0, 0, 0), 100006);
        due("19 a plan beyond the last day", x.plan(0, 6), 1);
    }

    // promise 8
    private static void startByChance() {
        LessonCards x = new LessonCards();
        x.card(1);
        x.card(3);
        x.card(2);
        x.card(1);
        x.most(400, 100);
        int[] answers = {GOOD, GOOD, HARD, GOOD};
        for (int i = 0; i < 4; i++) {
            due("8 next", x.next(0), i == 0 ? EMPTY : 4 * i);
            due("8 start, or OPEN", x.start(0), i == 0 ? 4 : OPEN);
            x.answer(0, answers[i]);
        }
        due("8 second sides", x.start(0), 2);
        due("8 of card 1", x.next(0), 5);
        x.answer(0, HARD);
        due("8 of card 2", x.next(0), 9);
        x.answer(0, HARD);
        due("8 third side", x.start(0), 1);
        x.answer(0, HARD);
        x.day(0, 2);
        for (int pupil : NO_PUPILS) {
            due("8 no pupil", x.start(pupil), NONE);
        }
        due("8 one side a card", x.start(0), 4);
        due("8 least CHANCE, least card, its least side", x.next(0), 5);
        due("8 OPEN", x.start(0), OPEN);
        due("8 skip", x.skip(0), 4);
        due("8 then the other of like CHANCE", x.next(0), 8);
        x.skip(0);
        due("8 then the better known", x.next(0), 0);
        x.skip(0);
        due("8 then the last card", x.next(0), 12);
    }

    private static void startCutOff() {
        LessonCards x = new LessonCards();
        x.card(2);
        x.card(2);
        x.card(1);
        startAndAnswer(x, HARD);
        x.day(0, 1);
        x.most(1, 100);
        due("8 one DUE; the others cut off", x.start(0), 2);
        due("8 the DUE one", x.next(0), 0);
        x.skip(0);
        due("8 a card whose DUE side was cut off comes with a NEW one", x.next(0), 5);
        x.day(0, 1);
        x.most(0, 1);
        due("8 no DUE, one NEW", x.start(0), 1);
        due("8 by card", x.next(0), 1);
    }

    private static void startFresh() {
        LessonCards x = new LessonCards();
        x.card(2);
        x.card(1);
        x.card(4);
        x.bury(0, 0, 0);
        x.bury(0, 1, 0);
        x.bury(0, 2, 0);
        x.bury(0, 2, 1);
        due("8 first sides not BURIED", x.start(0), 2);
        due("8 of card 0", x.next(0), 1);
        x.skip(0);
        due("8 of card 2", x.next(0), 10);
        x.day(0, 1);
        x.most(60, 2);
        due("8 at most MOST NEW", x.start(0), 2);
        x.answer(0, GOOD);
        x.answer(0, GOOD);
        due("8 the others", x.start(0), 2);
        due("8 next NEW side", x.next(0), 1);
        x.skip(0);
        due("8 then of card 2", x.next(0), 8);
        x.day(0, 2);
        due("8 DUE sides of a card leave its NEW ones out", x.start(0), 3);
        due("8 DUE", x.next(0), 0);
        x.skip(0);
        due("8 DUE", x.next(0), 4);
        x.skip(0);
        due("8 NEW", x.next(0), 8);
    }

    // promise 9
    private static void next() {
        LessonCards x = withCards(3);
        for (int pupil : NO_PUPILS) {
            due("9 no pupil", x.next(pupil), NONE);
        }
        due("9 EMPTY", x.next(0), EMPTY);
        x.start(0);
        due("9 next", x.next(0), 0);
        due("9 it stays", x.next(0), 0);
        x.answer(0, GOOD);
        due("9 then", x.next(0), 4);
        due("9 another pupil", x.next(1), EMPTY);
    }

    // promise 10
    private static void answerByBoxes() {
        int[] boxes = {0, 0, 1, 2};
        int[] strengths = {1000, 1000, 2000, 4000};
        for (int answer = AGAIN; answer <= EASY; answer++) {
            LessonCards x = answeredOnce(0, answer);
            due("10 BOX", x.memory(0, 0, 0, 2), boxes[answer]);
            strengthAndEase("10 BOXES", x, strengths[answer], 2500);
            due("10 AGAINS", x.memory(0, 0, 0, 4), answer == AGAIN ? 1 : 0);
            due("10 DAY", x.memory(0, 0, 0, 3), 0);
        }
        LessonCards x = answeredOnce(0, EASY);
        again(x, 900, EASY);
        due("10 BOX 4", x.memory(0, 0, 0, 2), 4);
        again(x, 900, HARD);
        due("10 HARD leaves the BOX", x.memory(0, 0, 0, 2), 4);
        due("10 STRENGTH by it", x.memory(0, 0, 0, 0), 16000);
        due("10 DAY", x.memory(0, 0, 0, 3), 1800);
        again(x, 900, EASY);
        again(x, 900, EASY);
        again(x, 900, EASY);
        due("10 BOX 9 at most", x.memory(0, 0, 0, 2), 9);
        due("10 its STRENGTH", x.memory(0, 0, 0, 0), 512000);
        again(x, 900, GOOD);
        due("10 BOX 9 at most", x.memory(0, 0, 0, 2), 9);
        x.rule(1);
        again(x, 900, AGAIN);
        due("10 another rule leaves the BOX", x.memory(0, 0, 0, 2), 9);
        strengthAndEase("10 a fifth", x, 102400, 2300);
        x.rule(0);
        again(x, 900, AGAIN);
        due("10 AGAIN: BOX 0", x.memory(0, 0, 0, 2), 0);
        strengthAndEase("10 BOXES leave the EASE", x, 1000, 2300);
        due("10 AGAINS", x.memory(0, 0, 0, 4), 2);
    }

    private static void answerByStrengths() {
        int[] first = {500, 1000, 2500, 6000};
        int[] behind = {500, 3317, 6350, 8255};
        int[] eases = {2300, 2350, 2500, 2650};
        for (int answer = AGAIN; answer <= EASY; answer++) {
            LessonCards x = answeredOnce(1, answer);
            strengthAndEase("10 NEW by STRENGTHS", x, first[answer], 2500);
            LessonCards y = answeredOnce(1, GOOD);
            again(y, 3, answer);
            strengthAndEase("10 by STRENGTHS, CHANCE 873", y, behind[answer], eases[answer]);
            due("10 BOX stays", y.memory(0, 0, 0, 2), 0);
        }
        LessonCards x = answeredOnce(1, AGAIN);
        again(x, 1, EASY);
        strengthAndEase("10 the rest goes away ahead of the 1300", x, 1726, 2650);
        LessonCards y = answeredOnce(1, HARD);
        again(y, 1, EASY);
        strengthAndEase("10 the rest goes away within, too", y, 3266, 2650);
        LessonCards z = withCards(1);
        z.rule(1);
        z.start(0);
        z.answer(0, AGAIN);
        z.answer(0, GOOD);
        strengthAndEase("10 on the same day CHANCE is 1000", z, 1175, 2500);
    }

    private static void strengthsBounds() {
        LessonCards x = answeredOnce(1, HARD);
        for (int i = 0; i < 7; i++) {
            again(x, 1000, HARD);
        }
        due("10 EASE", x.memory(0, 0, 0, 1), 1450);
        again(x, 1000, AGAIN);
        due("10 EASE 1300 at least", x.memory(0, 0, 0, 1), 1300);
        again(x, 1000, HARD);
        due("10 EASE 1300 at least", x.memory(0, 0, 0, 1), 1300);
        LessonCards y = answeredOnce(1, EASY);
        for (int i = 0; i < 6; i++) {
            againLongBehind(y, EASY);
        }
        due("10 EASE", y.memory(0, 0, 0, 1), 3400);
        againLongBehind(y, EASY);
        strengthAndEase("10 STRENGTH 4000000, EASE 3500 at most", y, 4000000, 3500);
        againLongBehind(y, GOOD);
        strengthAndEase("10 STRENGTH at most, GOOD", y, 4000000, 3500);
        againLongBehind(y, HARD);
        strengthAndEase("10 STRENGTH at most, HARD", y, 4000000, 3350);
        LessonCards z = answeredOnce(1, HARD);
        again(z, 1, AGAIN);
        due("10 STRENGTH 500 at least", z.memory(0, 0, 0, 0), 500);
    }

    private static void answerByTable() {
        int[] first = {500, 1000, 2500, 6000};
        int[] behind = {500, 2500, 5000, 7500};
        for (int answer = AGAIN; answer <= EASY; answer++) {
            LessonCards x = answeredOnce(2, answer);
            strengthAndEase("10 NEW by TABLE", x, first[answer], 2500);
            LessonCards y = answeredOnce(2, GOOD);
            again(y, 3, answer);
            strengthAndEase("10 by TABLE", y, behind[answer], 2500);
            due("10 BOX stays", y.memory(0, 0, 0, 2), 0);
        }
        LessonCards x = answeredOnce(2, GOOD);
        x.table(GOOD, 1999);
        again(x, 3, GOOD);
        due("10 the rest goes away", x.memory(0, 0, 0, 0), 4997);
        x.table(GOOD, 100000);
        again(x, 1000, GOOD);
        due("10 as told", x.memory(0, 0, 0, 0), 499700);
        again(x, 1000, GOOD);
        due("10 STRENGTH 4000000 at most", x.memory(0, 0, 0, 0), 4000000);
        x.table(HARD, 1);
        for (int i = 0; i < 3; i++) {
            x.day(0, 1000);
        }
        again(x, 1000, HARD);
        due("10 as told", x.memory(0, 0, 0, 0), 4000);
        again(x, 1000, HARD);
        due("10 STRENGTH 500 at least", x.memory(0, 0, 0, 0), 500);
    }

    private static void answerBacks() {
        LessonCards x = withCards(2);
        x.start(0);
        due("10 AGAIN comes back", x.answer(0, AGAIN), 2);
        due("10 behind the others", x.next(0), 4);
        due("10 GOOD goes", x.answer(0, GOOD), 1);
        due("10 AGAIN comes back twice", x.answer(0, AGAIN), 1);
        due("10 no more than that", x.answer(0, AGAIN), 0);
        due("10 EMPTY", x.answer(0, AGAIN), EMPTY);
        x.day(0, 1);
        due("10 the next day", x.start(0), 1);
        due("10 comes back", x.answer(0, AGAIN), 1);
        due("10 HARD goes", x.answer(0, HARD), 0);
        due("10 log", x.log(), 6);
    }

    private static void answerRefused() {
        LessonCards x = withCards(1);
        for (int pupil : NO_PUPILS) {
            due("10 no pupil", x.answer(pupil, 0), NONE);
        }
        due("10 NONE ahead of EMPTY", x.answer(0, 4), NONE);
        due("10 EMPTY", x.answer(0, 3), EMPTY);
        x.start(0);
        due("10 no answer", x.answer(0, -1), NONE);
        due("10 no answer", x.answer(0, 4), NONE);
        due("10 nothing changed", x.pupil(0, 4), 1);
        due("10 nothing logged", x.log(), 0);
        due("10 EASY goes", x.answer(0, EASY), 0);
    }

    /** Takes more than the 512 calls that are promised: within them THE LOG cannot fill. */
    private static void logIsFull() {
        LessonCards x = withCards(120);
        x.most(400, 100);
        x.rule(2);
        x.table(GOOD, 1);
        while (x.log() < 3000) {
            x.start(0);
            while (x.log() < 3000 && x.next(0) >= 0) {
                x.answer(0, GOOD);
            }
            if (x.next(0) < 0) {
                x.day(0, 5);
            }
        }
        x.start(1);
        due("10 FULL", x.answer(1, GOOD), FULL);
        due("10 NONE ahead of FULL", x.answer(1, 4), NONE);
        due("10 EMPTY ahead of FULL", x.answer(2, GOOD), EMPTY);
        due("10 FULL leaves THE ROW", x.pupil(1, 4), 100);
        due("10 FULL leaves THE LOG", x.log(), 3000);
        due("13 undo", x.undo(), 2999);
        due("10 room for one", x.answer(1, GOOD), 99);
        due("10 FULL", x.answer(1, GOOD), FULL);
    }

    // promise 11
    private static void skip() {
        LessonCards x = withCards(3);
        for (int pupil : NO_PUPILS) {
            due("11 no pupil", x.skip(pupil), NONE);
        }
        due("11 EMPTY", x.skip(0), EMPTY);
        x.start(0);
        due("11 skip", x.skip(0), 3);
        due("11 next", x.next(0), 4);
        due("11 skip", x.skip(0), 3);
        due("11 next", x.next(0), 8);
        due("11 skip", x.skip(0), 3);
        due("11 next", x.next(0), 0);
        due("11 nothing is logged", x.log(), 0);
        x.answer(0, GOOD);
        x.answer(0, GOOD);
        due("11 the only one", x.skip(0), 1);
        due("11 next", x.next(0), 8);
    }

    // promise 12
    private static void bury() {
        LessonCards x = new LessonCards();
        x.card(2);
        x.card(1);
        for (int pupil : NO_PUPILS) {
            due("12 no pupil", x.bury(pupil, 0, 0), NONE);
        }
        due("12 no card", x.bury(0, 2, 0), NONE);
        due("12 no card", x.bury(0, -1, 0), NONE);
        due("12 no side", x.bury(0, 0, 2), NONE);
        due("12 no side", x.bury(0, 1, -1), NONE);
        due("12 from no ROW", x.bury(0, 0, 1), 0);
        due("12 BURIED already", x.bury(0, 0, 1), NONE);
        x.start(0);
        due("12 not in THE ROW", x.bury(1, 0, 0), 0);
        due("12 another pupil's stays", x.pupil(0, 4), 2);
        due("12 from THE ROW", x.bury(0, 0, 0), 1);
        due("12 next", x.next(0), 4);
        due("12 BURIED", x.memory(0, 0, 0, 9), 1);
        x.answer(0, HARD);
        due("12 all BURIED or answered", x.start(0), 0);
        x.day(0, 1);
        due("12 the next day", x.start(0), 2);
        due("12 a DUE one", x.next(0), 4);
        due("12 bury what is DUE", x.bury(0, 1, 0), 1);
        due("12 it is DUE yet", x.memory(0, 1, 0, 6), 1);
        x.answer(0, HARD);
        due("12 it is not asked", x.start(0), 1);
        x.answer(0, HARD);
        x.day(0, 1);
        x.bury(0, 0, 0);
        due("12 the other DUE side of the card", x.start(0), 2);
        due("12 longest ago", x.next(0), 4);
        x.skip(0);
        due("12 next", x.next(0), 1);
    }

    // promise 13
    private static void undo() {
        LessonCards x = withCards(2);
        due("13 EMPTY", x.undo(), EMPTY);
        x.rule(1);
        x.start(0);
        x.answer(0, GOOD);
        x.start(1);
        x.answer(1, AGAIN);
        x.day(0, 3);
        x.rule(0);
        x.start(0);
        x.answer(0, EASY);
        due("13 BOX 2", x.memory(0, 0, 0, 2), 2);
        due("13 THE ROW", x.pupil(0, 4), 1);
        due("13 undo", x.undo(), 2);
        due("13 THE ROW is empty", x.next(0), EMPTY);
        due("13 another's is not", x.pupil(1, 4), 2);
        strengthAndEase("13 as it was", x, 2500, 2500);
        due("13 BOX", x.memory(0, 0, 0, 2), 0);
        due("13 DAY", x.memory(0, 0, 0, 3), 0);
        due("13 TODAY stays", x.pupil(0, 5), 3);
        due("13 undo", x.undo(), 1);
        due("13 AGAINS", x.memory(1, 0, 0, 4), 0);
        due("13 NEW again", x.memory(1, 0, 0, 3), -1);
        due("13 its ROW is empty", x.pupil(1, 4), 0);
        due("13 undo", x.undo(), 0);
        due("13 NEW again", x.memory(0, 0, 0, 0), 0);
        due("13 EMPTY", x.undo(), EMPTY);
        due("13 check", x.check(0), 1);
        x.rule(1);
        x.start(0);
        x.answer(0, GOOD);
        x.day(0, 3);
        x.start(0);
        x.answer(0, EASY);
        due("13 EASE", x.memory(0, 0, 0, 1), 2650);
        x.undo();
        due("13 EASE as it was", x.memory(0, 0, 0, 1), 2500);
    }

    private static void undoLeavesBacks() {
        LessonCards x = withCards(1);
        x.start(0);
        due("13 back", x.answer(0, AGAIN), 1);
        due("13 undo", x.undo(), 0);
        x.start(0);
        due("13 back twice", x.answer(0, AGAIN), 1);
        due("13 undo", x.undo(), 0);
        x.start(0);
        due("13 not a third time", x.answer(0, AGAIN), 0);
        x.undo();
        x.bury(0, 0, 0);
        due("13 BURIED stays by undo", x.memory(0, 0, 0, 9), 1);
    }

    // promise 14
    private static void memory() {
        LessonCards x = new LessonCards();
        x.card(2);
        for (int pupil : NO_PUPILS) {
            due("14 no pupil", x.memory(pupil, 0, 0, 0), -2);
        }
        due("14 no card", x.memory(0, 1, 0, 0), -2);
        due("14 no card", x.memory(0, -1, 0, 0), -2);
        due("14 no side", x.memory(0, 0, 2, 0), -2);
        due("14 no side", x.memory(0, 0, -1, 0), -2);
        due("14 no what", x.memory(0, 0, 0, 10), -2);
        due("14 no what", x.memory(0, 0, 0, -1), -2);
        int[] fresh = {0, 2500, 0, -1, 0, 0, 0, 0, 0, 0};
        for (int what = 0; what < 10; what++) {
            due("14 NEW: " + what, x.memory(0, 0, 1, what), fresh[what]);
        }
        x.day(0, 5);
        x.start(0);
        x.answer(0, AGAIN);
        x.answer(0, GOOD);
        int[] known = {2000, 2500, 1, 5, 1, 1000, 0, 1, 0, 0};
        for (int what = 0; what < 10; what++) {
            due("14 KNOWN: " + what, x.memory(0, 0, 0, what), known[what]);
        }
        x.day(0, 2);
        x.bury(0, 0, 0);
        int[] due = {2000, 2500, 1, 5, 1, 891, 1, 0, 0, 1};
        for (int what = 0; what < 10; what++) {
            due("14 DUE: " + what, x.memory(0, 0, 0, what), due[what]);
        }
        due("14 another pupil's", x.memory(1, 0, 0, 0), 0);
        due("14 another side's", x.memory(0, 0, 1, 0), 0);
    }

    private static int chance(int q) {
        return Made.chance(q);
    }

    private static void chanceAndDue() {
        LessonCards x = answeredOnce(0, HARD);
        for (int d = 1; d <= 30; d++) {
            x.day(0, 1);
            due("14 CHANCE after " + d, x.memory(0, 0, 0, 5), chance(16 * d));
        }
        x.day(0, 1000);
        due("14 CHANCE is 0 in the end", x.memory(0, 0, 0, 5), 0);
        due("14 DUE", x.memory(0, 0, 0, 6), 1);
        int[] numbers = {1066, 1067};
        for (int number : numbers) {
            LessonCards y = answeredOnce(2, HARD);
            y.table(HARD, number);
            again(y, 1, HARD);
            due("14 STRENGTH", y.memory(0, 0, 0, 0), number);
            y.day(0, 1);
            due("14 CHANCE", y.memory(0, 0, 0, 5), number == 1066 ? 897 : 903);
            due("14 DUE below 900", y.memory(0, 0, 0, 6), number == 1066 ? 1 : 0);
            due("14 KNOWN else", y.memory(0, 0, 0, 7), number == 1066 ? 0 : 1);
            due("15 when", y.when(0, 0, 0), number == 1066 ? 2 : 3);
        }
        int[] days = {30, 5};
        int[] strong = {48001, 4267};
        for (int i = 0; i < 2; i++) {
            LessonCards y = answeredOnce(2, HARD);
            y.table(HARD, strong[i]);
            again(y, 1, HARD);
            y.day(0, days[i] - 1);
            due("14 KNOWN yet", y.memory(0, 0, 0, 7), 1);
            due("15 when", y.when(0, 0, 0), i == 0 ? 47 : 6);
            y.day(0, 1);
            due("14 CHANCE", y.memory(0, 0, 0, 5), chance(i == 0 ? 9 : 18));
        }
        LessonCards z = answeredOnce(0, HARD);
        for (int i = 0; i < 100; i++) {
            z.day(0, 1000);
        }
        due("14 CHANCE long behind", z.memory(0, 0, 0, 5), 0);
        due("8 asked long behind", z.start(0), 1);
    }

    private static void leech() {
        LessonCards x = withCards(2);
        x.bury(0, 1, 0);
        for (int day = 0; day < 2; day++) {
            x.start(0);
            x.answer(0, AGAIN);
            x.answer(0, AGAIN);
            due("10 three a day", x.answer(0, AGAIN), 0);
            x.day(0, 1);
            x.bury(0, 1, 0);
        }
        x.start(0);
        due("10 the seventh AGAIN", x.answer(0, AGAIN), 1);
        due("14 no LEECH yet", x.memory(0, 0, 0, 8), 0);
        due("16 no LEECH yet", x.pupil(0, 3), 0);
        due("10 the eighth does not come back", x.answer(0, AGAIN), 0);
        due("14 LEECH", x.memory(0, 0, 0, 8), 1);
        due("14 AGAINS", x.memory(0, 0, 0, 4), 8);
        due("14 not KNOWN", x.memory(0, 0, 0, 7), 0);
        due("16 LEECHES", x.pupil(0, 3), 1);
        x.day(0, 10);
        due("14 CHANCE of a LEECH", x.memory(0, 0, 0, 5), chance(160));
        due("14 not DUE", x.memory(0, 0, 0, 6), 0);
        due("16 not DUE", x.pupil(0, 1), 0);
        due("15 never", x.when(0, 0, 0), NONE);
        due("17 not KNOWN", x.known(0, 0), 0);
        due("8 not asked", x.start(0), 1);
        due("8 but the other", x.next(0), 4);
        due("19 not planned", x.plan(0, 0), 0);
        due("20 not put", x.even(0, 5), 0);
        due("22 not put", x.put(0, 0), NONE);
        x.undo();
        due("13 a LEECH no more", x.memory(0, 0, 0, 8), 0);
        due("13 DUE", x.memory(0, 0, 0, 6), 1);
    }

    // promise 15
    private static void when() {
        LessonCards x = answeredOnce(0, EASY);
        for (int pupil : NO_PUPILS) {
            due("15 no pupil", x.when(pupil, 0, 0), NONE);
        }
        due("15 no card", x.when(0, 1, 0), NONE);
        due("15 no side", x.when(0, 0, 1), NONE);
        due("15 no side", x.when(0, 0, -1), NONE);
        due("15 NEW", x.when(1, 0, 0), NONE);
        due("15 in 4 days", x.when(0, 0, 0), 4);
        x.day(0, 3);
        due("15 not DUE", x.memory(0, 0, 0, 6), 0);
        due("15 in a day", x.when(0, 0, 0), 4);
        x.day(0, 1);
        due("15 today", x.when(0, 0, 0), 4);
        due("15 DUE", x.memory(0, 0, 0, 6), 1);
        x.day(0, 6);
        due("15 TODAY at least", x.when(0, 0, 0), 10);
        x.bury(0, 0, 0);
        due("15 BURIED or not", x.when(0, 0, 0), 10);
    }

    // promise 16
    private static void pupil() {
        LessonCards x = new LessonCards();
        x.card(2);
        x.card(1);
        x.card(3);
        for (int pupil : NO_PUPILS) {
            due("16 no pupil", x.pupil(pupil, 0), NONE);
        }
        due("16 no what", x.pupil(0, 6), NONE);
        due("16 no what", x.pupil(0, -1), NONE);
        due("16 NEW", x.pupil(0, 2), 6);
        startAndAnswer(x, GOOD);
        due("16 NEW", x.pupil(0, 2), 3);
        due("16 KNOWN cards", x.pupil(0, 0), 1);
        startAndAnswer(x, EASY);
        due("16 KNOWN cards", x.pupil(0, 0), 2);
        due("16 NEW", x.pupil(0, 2), 1);
        x.day(0, 2);
        due("16 DUE sides", x.pupil(0, 1), 3);
        x.bury(0, 0, 0);
        due("16 BURIED ones, too", x.pupil(0, 1), 3);
        due("16 KNOWN cards", x.pupil(0, 0), 0);
        due("16 THE ROW", x.pupil(0, 4), 0);
        x.start(0);
        due("16 THE ROW", x.pupil(0, 4), 2);
        due("16 TODAY", x.pupil(0, 5), 2);
        due("16 another", x.pupil(3, 2), 6);
    }

    // promise 17
    private static void known() {
        LessonCards x = new LessonCards();
        x.card(2);
        for (int pupil : NO_PUPILS) {
            due("17 no pupil", x.known(pupil, 0), NONE);
        }
        due("17 no card", x.known(0, 1), NONE);
        due("17 no card", x.known(0, -1), NONE);
        due("17 NEW", x.known(0, 0), 0);
        startAndAnswer(x, GOOD);
        due("17 one side is NEW", x.known(0, 0), 0);
        startAndAnswer(x, EASY);
        due("17 KNOWN", x.known(0, 0), 1);
        due("17 not by another", x.known(1, 0), 0);
        x.day(0, 1);
        due("17 KNOWN", x.known(0, 0), 1);
        x.day(0, 1);
        due("17 one side is DUE", x.known(0, 0), 0);
    }

    // promise 18
    private static void mean() {
        LessonCards x = new LessonCards();
        x.card(2);
        due("18 no card", x.mean(1, 0), NONE);
        due("18 no card", x.mean(-1, 0), NONE);
        due("18 no side", x.mean(0, 2), NONE);
        due("18 no side", x.mean(0, -1), NONE);
        due("18 NEW", x.mean(0, 0), 0);
        for (int pupil = 0; pupil < 4; pupil++) {
            x.start(pupil);
            x.answer(pupil, HARD);
            due("18 the sum", x.mean(0, 0), 1000 * (pupil + 1));
        }
        x.day(1, 1);
        x.day(2, 2);
        x.day(3, 100);
        due("18 each by its TODAY", x.mean(0, 0), 1000 + chance(16) + chance(32) + chance(1600));
        due("18 another side", x.mean(0, 1), 0);
    }

    // promise 19
    private static void plan() {
        LessonCards x = answeredOnce(0, HARD);
        for (int pupil : NO_PUPILS) {
            due("19 no pupil", x.plan(pupil, 0), NONE);
        }
        due("19 plan(0, -1)", x.plan(0, -1), NONE);
        due("19 plan(0, 60)", x.plan(0, 60), NONE);
        x.most(0, 0);
        for (int n = 0; n < 60; n++) {
            boolean asked = n == 1 || n == 3 || n == 7 || n == 15 || n == 30;
            due("19 plan(0, " + n + ")", x.plan(0, n), asked ? 1 : 0);
        }
        strengthAndEase("19 nothing changes", x, 1000, 2500);
        due("19 nothing is logged", x.log(), 1);
        due("19 BURIED stays", x.memory(0, 0, 0, 9), 1);
        due("19 check", x.check(0), 1);
        x.rule(2);
        x.table(GOOD, 1);
        for (int n = 0; n < 60; n += 7) {
            due("19 by the TABLE", x.plan(0, n), n == 0 ? 0 : 1);
        }
        x.rule(1);
        due("19 by STRENGTHS: 2513 then", x.plan(0, 3), 0);
        due("19 by STRENGTHS: 2513 then", x.plan(0, 4), 1);
        due("19 a pupil with nothing learnt", x.plan(1, 0), 0);
    }

    private static void planBySides() {
        LessonCards x = new LessonCards();
        x.card(2);
        x.card(1);
        startAndAnswer(x, HARD);
        startAndAnswer(x, HARD);
        due("19 nothing is DUE", x.plan(0, 0), 0);
        due("19 one side a card", x.plan(0, 1), 2);
        due("19 the other side then", x.plan(0, 2), 1);
        due("19 the first ones again", x.plan(0, 3), 2);
        x.day(0, 1);
        x.start(0);
        due("19 as from an empty ROW", x.plan(0, 0), 2);
        x.bury(0, 1, 0);
        x.bury(0, 0, 0);
        due("19 the other side", x.plan(0, 0), 1);
        due("19 the BURIED ones", x.plan(0, 1), 2);
        x.bury(0, 0, 1);
        due("19 all BURIED", x.plan(0, 0), 0);
        due("19 on the first day alone", x.plan(0, 1), 2);
        due("19 then the other side", x.plan(0, 2), 1);
        due("19 still BURIED", x.memory(0, 0, 1, 9), 1);
    }

    // promise 20
    private static void even() {
        LessonCards x = withCards(6);
        startAndAnswer(x, HARD);
        for (int pupil : NO_PUPILS) {
            due("20 no pupil", x.even(pupil, 0), NONE);
        }
        due("20 even(0, -1)", x.even(0, -1), NONE);
        due("20 even(0, 21)", x.even(0, 21), NONE);
        due("21 before any", x.load(1), NONE);
        due("22 before any", x.put(0, 0), NONE);
        due("20 nothing put off", x.even(0, 0), 6);
        due("21 all on one day", x.load(1), 6);
        due("20 three days", x.even(0, 2), 2);
        for (int i = 0; i < 6; i++) {
            due("22 by card", x.put(i, 0), 1 + i / 2);
        }
        due("21 load", x.load(3), 2);
        due("20 five days", x.even(0, 4), 2);
        due("21 as early as can be", x.load(3), 2);
        due("21 as early as can be", x.load(4), 0);
        due("20 one a day", x.even(0, 20), 1);
        due("21 load", x.load(6), 1);
        due("22 put", x.put(5, 0), 6);
        x.day(0, 3);
        x.bury(0, 0, 0);
        due("20 all DUE today, BURIED or not", x.even(0, 1), 3);
        due("21 load", x.load(0), 3);
        due("21 load", x.load(1), 3);
        due("20 refused", x.even(0, 21), NONE);
        due("20 refused changes nothing", x.load(1), 3);
        due("20 a pupil with nothing to put", x.even(1, 20), 0);
        due("21 the latest even()", x.load(0), 0);
        due("22 the latest even()", x.put(0, 0), NONE);
        due("14 nothing is moved", x.when(0, 0, 0), 3);
    }

    private static void evenEdges() {
        LessonCards x = withCards(22);
        x.most(400, 100);
        startAndAnswer(x, EASY);
        x.day(0, 4);
        startAndAnswer(x, EASY);
        x.day(0, 15);
        startAndAnswer(x, EASY);
        due("15 in 60 days", x.when(0, 0, 0), 79);
        due("20 on the 60th day", x.even(0, 0), 22);
        due("21 on the 60th day", x.load(60), 22);
        due("20 put off by 20", x.even(0, 20), 2);
        due("21 as early as can be", x.load(70), 2);
        due("21 then", x.load(71), 0);
        x.undo();
        due("20 one fewer there", x.even(0, 20), 1);
        due("22 DUE today", x.put(21, 0), 0);
        due("21 today", x.load(0), 1);
        due("21 one a day", x.load(60), 1);
        x.rule(2);
        x.table(GOOD, 4001);
        x.start(0);
        x.answer(0, GOOD);
        due("15 in 61 days", x.when(0, 21, 0), 80);
        due("20 one a day", x.even(0, 20), 1);
        due("22 the last day", x.put(20, 0), 80);
        due("21 the last day", x.load(80), 1);
        due("22 no such day", x.put(21, 0), NONE);
        due("20 nothing put off", x.even(0, 0), 21);
        x.day(0, 1);
        due("20 now it has one", x.even(0, 0), 21);
        due("22 the 60th", x.put(21, 0), 60);
        due("22 ahead of it", x.put(0, 0), 59);
    }

    // promises 21 and 22
    private static void loadAndPut() {
        LessonCards x = new LessonCards();
        x.card(2);
        x.card(2);
        x.card(1);
        x.most(60, 1);
        startAndAnswer(x, EASY);
        x.most(60, 10);
        startAndAnswer(x, GOOD);
        startAndAnswer(x, GOOD);
        due("20 even", x.even(0, 1), 2);
        due("21 load(-1)", x.load(-1), NONE);
        due("21 load(81)", x.load(81), NONE);
        due("21 load(80)", x.load(80), 0);
        due("22 the earliest first", x.put(0, 1), 2);
        due("22 then by card", x.put(1, 0), 2);
        due("22 then by side", x.put(1, 1), 3);
        due("22 then by card", x.put(2, 0), 3);
        due("22 the latest first day", x.put(0, 0), 4);
        due("21 load", x.load(2), 2);
        due("21 load", x.load(3), 2);
        due("21 load", x.load(4), 1);
        LessonCards y = withCards(4);
        y.start(0);
        y.answer(0, GOOD);
        y.answer(0, EASY);
        y.answer(0, EASY);
        y.answer(0, HARD);
        due("20 even", y.even(0, 0), 2);
        due("22 the last card first", y.put(3, 0), 1);
        due("22 then the first", y.put(0, 0), 2);
        due("22 then this", y.put(1, 0), 4);
        due("22 and this", y.put(2, 0), 4);
        due("22 no card", x.put(3, 0), NONE);
        due("22 no card", x.put(-1, 0), NONE);
        due("22 no side", x.put(2, 1), NONE);
        due("22 no side", x.put(0, -1), NONE);
        due("2 one more card", x.card(1), 3);
        due("22 it is on no day", x.put(3, 0), NONE);
        x.day(0, 2);
        due("21 days from TODAY then", x.load(2), 2);
        due("22 days from TODAY then", x.put(0, 0), 4);
    }

    // promises 23 to 26
    private static void test() {
        LessonCards x = new LessonCards();
        due("23 levels 1", x.test(1, 1, 1), NONE);
        due("23 levels 9", x.test(9, 1, 1), NONE);
        due("23 slip 0", x.test(3, 0, 1), NONE);
        due("23 slip 500", x.test(3, 500, 1), NONE);
        due("23 guess 0", x.test(3, 1, 0), NONE);
        due("23 guess 500", x.test(3, 1, 500), NONE);
        due("24 no test has begun", x.told(9, 9), EMPTY);
        due("23 the least numbers", x.test(2, 1, 1), 1);
        due("23 the greatest numbers", x.test(8, 499, 499), 1);
        due("23 test", x.test(3, 100, 200), 1);
        due("26 the least", x.level(), 0);
        due("24 question 0", x.told(0, 1), NONE);
        due("24 question 3", x.told(3, 1), NONE);
        due("24 answer 2", x.told(1, 2), NONE);
        due("24 answer -1", x.told(1, -1), NONE);
        weights(x, 1, 1, 1);
        due("25 no level", x.weight(3), NONE);
        due("25 no level", x.weight(-1), NONE);
        due("24 told", x.told(1, 1), 2);
        weights(x, 2, 9, 9);
        due("26 of several the least", x.level(), 1);
        due("24 told", x.told(2, 0), 1);
        weights(x, 16, 72, 9);
        due("24 of several the least", x.told(1, 1), 1);
        weights(x, 32, 648, 81);
        due("24 OVER", x.told(2, 0), 0);
        weights(x, 256, 5184, 81);
        due("24 EMPTY ahead of NONE", x.told(0, 0), EMPTY);
        due("26 level", x.level(), 1);
        due("23 refused", x.test(3, 500, 1), NONE);
        weights(x, 256, 5184, 81);
        due("23 anew", x.test(2, 499, 499), 1);
        weights(x, 1, 1);
        due("25 no level", x.weight(2), NONE);
    }

    private static void weights(LessonCards x, long... weights) {
        for (int i = 0; i < weights.length; i++) {
            due("25 weight(" + i + ")", x.weight(i), weights[i]);
        }
    }

    private static void testIsOver() {
        LessonCards x = new LessonCards();
        x.test(2, 100, 100);
        due("24 9 times the other", x.told(1, 1), 0);
        weights(x, 1, 9);
        due("24 EMPTY", x.told(1, 1), EMPTY);
        x.test(2, 100, 101);
        due("24 not 9 times the other", x.told(1, 1), 1);
        x.test(2, 101, 100);
        due("24 not 9 times the other", x.told(1, 1), 1);
        x.test(2, 100, 100);
        due("24 a wrong answer", x.told(1, 0), 0);
        weights(x, 9, 1);
        due("26 level", x.level(), 0);
        x.test(3, 50, 50);
        due("24 2 others: 19 is not 9 times 20", x.told(2, 0), 1);
        weights(x, 19, 19, 1);
        x.test(2, 499, 499);
        for (int i = 1; i <= 6; i++) {
            due("24 answer " + i, x.told(1, i % 2), i == 6 ? 0 : 1);
        }
        weights(x, 1, 1);
        due("24 6 were answered", x.told(1, 1), EMPTY);
    }

    /** 999 to the power of 6 and sums of such numbers: none may be beyond a long. */
    private static void longTest() {
        LessonCards x = new LessonCards();
        x.test(8, 1, 499);
        for (int i = 0; i < 5; i++) {
            due("24 told", x.told(1, 1), 2);
        }
        due("24 told", x.told(1, 1), 0);
        long known = 999L * 999 * 999 * 999 * 999 * 999;
        long guessed = 499L * 499 * 499 * 499 * 499 * 499;
        weights(x, guessed, known, known, known, known, known, known, known);
        due("26 level", x.level(), 1);
    }

    // promises 27 and 28
    private static void log() {
        LessonCards x = new LessonCards();
        x.card(1);
        x.card(3);
        due("28 none", x.logged(0, 0), NONE);
        x.start(2);
        x.answer(2, GOOD);
        x.day(2, 1);
        x.start(2);
        x.skip(2);
        x.bury(2, 1, 0);
        x.start(2);
        x.answer(2, EASY);
        x.start(3);
        x.answer(3, AGAIN);
        due("27 log", x.log(), 3);
        int[][] want = {{2, 0, 0, 0, 2}, {2, 1, 1, 1, 3}, {3, 0, 0, 0, 0}};
        for (int i = 0; i < 3; i++) {
            for (int what = 0; what < 5; what++) {
                due("28 logged(" + i + ", " + what + ")", x.logged(i, what), want[i][what]);
            }
        }
        due("28 no such answer", x.logged(3, 0), NONE);
        due("28 no such answer", x.logged(-1, 0), NONE);
        due("28 no such what", x.logged(0, 5), NONE);
        due("28 no such what", x.logged(0, -1), NONE);
        x.undo();
        due("27 log", x.log(), 2);
        due("28 taken back", x.logged(2, 0), NONE);
    }

    // promise 29
    private static void surprise() {
        LessonCards x = withCards(2);
        for (int pupil : NO_PUPILS) {
            due("29 no pupil", x.surprise(pupil, 0), NONE);
        }
        due("29 rule -1", x.surprise(0, -1), NONE);
        due("29 rule 3", x.surprise(0, 3), NONE);
        x.rule(2);
        x.bury(0, 1, 0);
        x.start(0);
        x.answer(0, GOOD);
        due("29 of a NEW side nothing", x.surprise(0, 1), 0);
        x.day(0, 5);
        x.bury(0, 1, 0);
        x.start(0);
        x.answer(0, AGAIN);
        x.answer(0, GOOD);
        due("29 by BOXES: 2000", x.surprise(0, 0), chance(40));
        due("29 by STRENGTHS: 2500", x.surprise(0, 1), chance(32));
        due("29 by TABLE: 2500", x.surprise(0, 2), chance(32));
        x.day(0, 4);
        x.bury(0, 1, 0);
        x.start(0);
        x.answer(0, HARD);
        due("29 by BOXES: 2000", x.surprise(0, 0), chance(40) + 1000 - chance(32));
        due("29 by STRENGTHS: 500, 1085", x.surprise(0, 1), chance(32) + 1000 - chance(58));
        due("29 by TABLE: 500, 1000", x.surprise(0, 2), chance(32) + 1000 - chance(64));
        x.table(GOOD, 4000);
        due("29 with the TABLE told now", x.surprise(0, 2), chance(32) + 1000 - chance(32));
        due("29 another pupil", x.surprise(1, 0), 0);
        due("29 nothing changes", x.memory(0, 0, 0, 0), 1000);
        due("32 check", x.check(0), 1);
    }

    // promise 30
    private static void better() {
        LessonCards x = withCards(1);
        for (int pupil : NO_PUPILS) {
            due("30 no pupil", x.better(pupil), NONE);
        }
        startAndAnswer(x, GOOD);
        due("30 of several the least", x.better(0), 0);
        x.day(0, 2);
        startAndAnswer(x, GOOD);
        due("29 BOXES", x.surprise(0, 0), 109);
        due("29 STRENGTHS", x.surprise(0, 1), 84);
        due("29 TABLE", x.surprise(0, 2), 84);
        due("30 STRENGTHS, as TABLE", x.better(0), 1);
        x.day(0, 8);
        startAndAnswer(x, GOOD);
        due("29 BOXES", x.surprise(0, 0), 314);
        due("29 STRENGTHS", x.surprise(0, 1), 217);
        due("29 TABLE", x.surprise(0, 2), 247);
        due("30 STRENGTHS", x.better(0), 1);
        x.table(GOOD, 5000);
        due("29 TABLE", x.surprise(0, 2), 154);
        due("30 TABLE", x.better(0), 2);
        due("30 another pupil", x.better(2), 0);
    }

    // promise 31
    private static void other() {
        LessonCards x = new LessonCards();
        x.card(2);
        x.start(0);
        x.answer(0, GOOD);
        x.day(0, 3);
        x.start(0);
        x.answer(0, EASY);
        for (int pupil : NO_PUPILS) {
            due("31 no pupil", x.other(pupil, 0, 0, 0), NONE);
        }
        due("31 rule -1", x.other(0, -1, 0, 0), NONE);
        due("31 rule 3", x.other(0, 3, 0, 0), NONE);
        due("31 no card", x.other(0, 0, 1, 0), NONE);
        due("31 no card", x.other(0, 0, -1, 0), NONE);
        due("31 no side", x.other(0, 0, 0, 2), NONE);
        due("31 no side", x.other(0, 0, 0, -1), NONE);
        due("31 by BOXES", x.other(0, 0, 0, 0), 8000);
        due("31 by STRENGTHS", x.other(0, 1, 0, 0), 8255);
        due("31 by TABLE", x.other(0, 2, 0, 0), 7500);
        x.table(EASY, 1234);
        due("31 by TABLE as it is now", x.other(0, 2, 0, 0), 3085);
        due("31 a NEW side", x.other(0, 1, 0, 1), 0);
        due("31 of another pupil", x.other(1, 1, 0, 0), 0);
        due("31 nothing changes", x.memory(0, 0, 0, 0), 8000);
        x.undo();
        due("31 taken back", x.other(0, 1, 0, 0), 2500);
    }

    // promise 32
    private static void check() {
        LessonCards x = withCards(3);
        for (int pupil : NO_PUPILS) {
            due("32 no pupil", x.check(pupil), NONE);
        }
        for (int i = 0; i < 30; i++) {
            x.rule(i % 3);
            x.table(i % 4, 300 * i + 100);
            x.start(i % 2);
            x.answer(i % 2, (i / 3) % 4);
            x.rule((i + 1) % 3);
            x.table(i % 4, 2000);
            if (i % 5 == 4) {
                x.undo();
            }
            x.day(i % 2, 3);
            for (int pupil = 0; pupil < 4; pupil++) {
                due("32 check", x.check(pupil), 1);
            }
        }
    }

    /** As many cards as there can be: in a chain, and all in THE ROW. */
    private static void manyCards() {
        LessonCards x = withCards(120);
        for (int i = 1; i < 120; i++) {
            due("3 a long chain", x.lean(i, i - 1), 1);
        }
        due("3 its ring", x.lean(0, 119), RING);
        due("3 over it", x.lean(119, 0), 2);
        due("8 the first of the chain alone", x.start(0), 1);
        LessonCards y = withCards(120);
        y.most(400, 100);
        startAndAnswer(y, HARD);
        y.day(0, 1);
        due("8 100 DUE ones and 20 NEW ones", y.start(0), 120);
        due("10 back to its end", y.answer(0, AGAIN), 120);
        due("11 skip", y.skip(0), 120);
        due("12 bury the last NEW one", y.bury(0, 119, 0), 119);
        due("12 bury what is first", y.bury(0, 2, 0), 118);
        due("9 next", y.next(0), 12);
        due("19 planned by DUE ones alone", y.plan(0, 0), 98);
        due("16 THE ROW", y.pupil(0, 4), 118);
    }

    private static void manySides() {
        LessonCards x = new LessonCards();
        for (int i = 0; i < 48; i++) {
            x.card(4);
        }
        x.most(0, 100);
        for (int side = 0; side < 4; side++) {
            due("8 next sides", x.start(3), 48);
            for (int i = 0; i < 48; i++) {
                x.answer(3, EASY);
            }
        }
        due("20 all at once", x.even(3, 0), 192);
        due("21 load", x.load(4), 192);
        due("20 on 21 days", x.even(3, 20), 10);
        due("21 load", x.load(22), 10);
        due("21 the last ones", x.load(23), 2);
        due("22 the last ones", x.put(47, 2), 23);
        due("22 by card, then by side", x.put(2, 1), 4);
        due("22 by card, then by side", x.put(2, 2), 5);
        due("16 KNOWN", x.pupil(3, 0), 48);
        due("31 by STRENGTHS", x.other(3, 1, 47, 3), 6000);
        due("32 check", x.check(3), 1);
    }
}
