/** What the document says of THE LOG, SURPRISE and other rules (part 5, promises 27 to 32), at its boundaries. */
public final class BackEdgesTest {
    private static final int NONE = Made.NONE, EMPTY = Made.EMPTY;
    private static final int AGAIN = Made.AGAIN, HARD = Made.HARD, GOOD = Made.GOOD, EASY = Made.EASY;
    private static final int[] FAR_OFF = {Integer.MIN_VALUE, -1000, 5000, Integer.MAX_VALUE};

    public static void main(String[] args) {
        logFromNoneOn();
        loggedFromTheFirstToTheLast();
        loggedWhats();
        loggedAtTheEnds();
        surpriseOfNone();
        surpriseOfNewOnes();
        surpriseBySameDayAndLongBehind();
        surpriseByEachAnswer();
        surpriseByTheTableNow();
        betterOfLikeOnes();
        betterByOne();
        otherOfNone();
        otherOfEachSide();
        otherStops();
        checkOfNone();
        checkAfterEachCall();
        asManyAnswersAsCallsBear();
        Dues.end("BackEdgesTest");
    }

    private static void due(String call, long got, long want) {
        Dues.due(call, got, want);
    }

    /** "How many answers THE LOG has": none, one, none again. */
    private static void logFromNoneOn() {
        LessonCards x = Made.likeCards(1);
        due("27 none", x.log(), 0);
        due("10 EMPTY", x.answer(0, GOOD), EMPTY);
        due("27 what is refused is not logged", x.log(), 0);
        x.start(0);
        x.skip(0);
        due("27 a skip is not logged", x.log(), 0);
        due("10 NONE", x.answer(0, 4), NONE);
        due("27 what is refused is not logged", x.log(), 0);
        x.answer(0, AGAIN);
        due("27 one", x.log(), 1);
        x.answer(0, GOOD);
        due("27 two", x.log(), 2);
        x.undo();
        due("27 one", x.log(), 1);
        x.undo();
        due("27 none", x.log(), 0);
        x.undo();
        due("27 none yet", x.log(), 0);
    }

    /** "Of answer i of THE LOG": "NONE." */
    private static void loggedFromTheFirstToTheLast() {
        LessonCards x = Made.likeCards(3);
        due("28 of none, 0", x.logged(0, 4), NONE);
        due("28 of none, -1", x.logged(-1, 4), NONE);
        x.start(0);
        x.answer(0, GOOD);
        due("28 of one, the first", x.logged(0, 4), GOOD);
        due("28 of one, the second", x.logged(1, 4), NONE);
        x.answer(0, EASY);
        x.answer(0, HARD);
        due("28 of three, -1", x.logged(-1, 4), NONE);
        due("28 of three, the first", x.logged(0, 4), GOOD);
        due("28 of three, the last", x.logged(2, 4), HARD);
        due("28 of three, behind it", x.logged(3, 4), NONE);
        due("28 of three, far behind it", x.logged(4, 4), NONE);
        for (int far : FAR_OFF) {
            due("28 far off", x.logged(far, 4), NONE);
        }
        x.undo();
        due("28 of two, the last", x.logged(1, 4), EASY);
        due("28 of two, behind it", x.logged(2, 4), NONE);
    }

    /** "0 pupil, 1 card, 2 side, 3 day, 4 answer." */
    private static void loggedWhats() {
        LessonCards x = Made.likeCards(1);
        x.start(0);
        x.answer(0, GOOD);
        due("28 what -1", x.logged(0, -1), NONE);
        due("28 what 0", x.logged(0, 0), 0);
        due("28 what 4", x.logged(0, 4), GOOD);
        due("28 what 5", x.logged(0, 5), NONE);
        for (int far : FAR_OFF) {
            due("28 far off", x.logged(0, far), NONE);
        }
    }

    /** The least and the greatest of each: pupil, card, side, day and answer. */
    private static void loggedAtTheEnds() {
        LessonCards x = Made.likeCards(119);
        x.card(4);
        x.start(0);
        x.answer(0, AGAIN);
        Made.days(x, 100000);
        for (int i = 0; i < 100; i++) {
            x.day(3, 1000);
        }
        x.most(0, 100);
        for (int card = 0; card < 20; card++) {
            x.bury(3, card, 0);
        }
        for (int side = 0; side < 3; side++) {
            x.bury(3, 119, side);
        }
        due("8 the last hundred", x.start(3), 100);
        for (int i = 0; i < 99; i++) {
            x.skip(3);
        }
        due("9 the last side of all", x.next(3), 479);
        x.answer(3, EASY);
        int[] least = {0, 0, 0, 0, AGAIN};
        int[] greatest = {3, 119, 3, 100000, EASY};
        for (int what = 0; what < 5; what++) {
            due("28 least " + what, x.logged(0, what), least[what]);
            due("28 greatest " + what, x.logged(1, what), greatest[what]);
        }
        due("14 the last DAY", x.memory(3, 119, 3, 3), 100000);
        due("31 by STRENGTHS", x.other(3, 1, 119, 3), 6000);
        due("32 check", x.check(3), 1);
    }

    /** "SURPRISE of a pupil by a RULE. NONE." */
    private static void surpriseOfNone() {
        LessonCards x = Made.strong(1000);
        due("29 rule -1", x.surprise(0, -1), NONE);
        due("29 rule 0", x.surprise(0, 0), 0);
        due("29 rule 2", x.surprise(0, 2), 0);
        due("29 rule 3", x.surprise(0, 3), NONE);
        due("29 pupil -1", x.surprise(-1, 0), NONE);
        due("29 pupil 3", x.surprise(3, 0), 0);
        due("29 pupil 4", x.surprise(4, 0), NONE);
        due("30 pupil -1", x.better(-1), NONE);
        due("30 pupil 3", x.better(3), 0);
        due("30 pupil 4", x.better(4), NONE);
        for (int far : FAR_OFF) {
            due("29 far off", x.surprise(far, 0), NONE);
            due("29 far off", x.surprise(0, far), NONE);
            due("30 far off", x.better(far), NONE);
        }
    }

    /** "each to a side that is not NEW then counts": the first answer does not, the second does. */
    private static void surpriseOfNewOnes() {
        for (int rule = 0; rule <= 2; rule++) {
            LessonCards x = Made.cards(2);
            x.start(0);
            due("29 nothing answered", x.surprise(0, rule), 0);
            x.answer(0, AGAIN);
            due("29 NEW by AGAIN", x.surprise(0, rule), 0);
            x.answer(0, AGAIN);
            due("29 then by AGAIN, CHANCE 1000", x.surprise(0, rule), 1000);
            x.answer(0, GOOD);
            due("29 then by GOOD, CHANCE 1000", x.surprise(0, rule), 1000);
            x.start(0);
            x.answer(0, AGAIN);
            due("29 the other side is NEW", x.surprise(0, rule), 1000);
            x.start(1);
            x.answer(1, AGAIN);
            x.answer(1, AGAIN);
            due("29 another pupil's do not count", x.surprise(0, rule), 1000);
            due("29 but for itself", x.surprise(1, rule), 1000);
            x.undo();
            due("29 taken back", x.surprise(1, rule), 0);
        }
    }

    /** "its CHANCE if it is AGAIN, else 1000 less its CHANCE": 1000 and 0 where it is 1000, 0 and 1000 where it is 0. */
    private static void surpriseBySameDayAndLongBehind() {
        for (int answer = AGAIN; answer <= EASY; answer++) {
            for (int rule = 0; rule <= 2; rule++) {
                LessonCards x = Made.likeCards(1);
                x.start(0);
                x.answer(0, AGAIN);
                x.answer(0, answer);
                due("29 on the same day", x.surprise(0, rule), answer == AGAIN ? 1000 : 0);
                LessonCards y = Made.likeCards(1);
                y.start(0);
                y.answer(0, GOOD);
                Made.again(y, 1000, answer);
                due("29 long behind", y.surprise(0, rule), answer == AGAIN ? 0 : 1000);
            }
        }
    }

    /** A day behind STRENGTH 1000: CHANCE 891, by a rule that would have it at 1000. */
    private static void surpriseByEachAnswer() {
        for (int answer = AGAIN; answer <= EASY; answer++) {
            LessonCards x = Made.likeCards(1);
            Made.startAndAnswer(x, HARD);
            Made.again(x, 1, answer);
            for (int rule = 0; rule <= 2; rule++) {
                due("29 answer " + answer + " by " + rule, x.surprise(0, rule), answer == AGAIN ? 891 : 109);
            }
        }
    }

    /** "(with the TABLE told now)": for SURPRISE and for other(). */
    private static void surpriseByTheTableNow() {
        LessonCards x = Made.likeCards(1);
        x.rule(Made.TABLE);
        Made.startAndAnswer(x, HARD);
        Made.again(x, 1, GOOD);
        Made.again(x, 2, GOOD);
        due("29 2000: q 16", x.surprise(0, 2), 109 + 109);
        due("31 4000", x.other(0, 2, 0, 0), 4000);
        x.table(GOOD, 1);
        due("29 500: q 64", x.surprise(0, 2), 109 + 1000 - Made.chance(64));
        due("31 500", x.other(0, 2, 0, 0), 500);
        x.table(GOOD, 100000);
        due("29 100000: q 0", x.surprise(0, 2), 109);
        due("31 4000000 at most", x.other(0, 2, 0, 0), 4000000);
        due("14 nothing is moved by it", x.memory(0, 0, 0, 0), 4000);
        due("32 each by the TABLE of when it was given", x.check(0), 1);
        x.table(GOOD, 2000);
        due("29 as it was", x.surprise(0, 2), 218);
        due("5 refused", x.table(GOOD, 100001), NONE);
        due("29 refused changes nothing", x.surprise(0, 2), 218);
        x.rule(0);
        due("29 whatever the RULE is now", x.surprise(0, 2), 218);
        due("29 other rules have no TABLE", x.surprise(0, 0), 218);
    }

    /** "The RULE of least SURPRISE for a pupil; of several the least." */
    private static void betterOfLikeOnes() {
        LessonCards x = Made.likeCards(1);
        due("30 nothing answered", x.better(0), 0);
        x.rule(2);
        Made.startAndAnswer(x, HARD);
        due("30 all alike", x.better(0), 0);
        Made.again(x, 1, GOOD);
        due("30 all alike", x.better(0), 0);
        LessonCards y = Made.likeCards(1);
        Made.startAndAnswer(y, GOOD);
        Made.again(y, 2, GOOD);
        due("29 2000 by BOXES", y.surprise(0, 0), 109);
        due("29 2500 by STRENGTHS", y.surprise(0, 1), 84);
        due("29 2500 by TABLE", y.surprise(0, 2), 84);
        due("30 STRENGTHS and TABLE are alike", y.better(0), 1);
        y.undo();
        due("30 taken back", y.better(0), 0);
        Made.startAndAnswer(y, AGAIN);
        due("29 2000 by BOXES", y.surprise(0, 0), 891);
        due("29 2500 by the others", y.surprise(0, 1) + y.surprise(0, 2), 2 * 916);
        due("30 BOXES", y.better(0), 0);
    }

    /** One thousandth more or less of STRENGTH by the TABLE makes the one or the other rule better. */
    private static void betterByOne() {
        LessonCards x = Made.likeCards(1);
        Made.startAndAnswer(x, HARD);
        Made.again(x, 1, GOOD);
        Made.again(x, 2, GOOD);
        due("29 BOXES: 2000", x.surprise(0, 0), 109 + 109);
        due("29 STRENGTHS: 2513, q 12", x.surprise(0, 1), 109 + 84);
        int[] numbers = {2461, 2462, 2666, 2667};
        int[] surprises = {109 + 91, 109 + 84, 109 + 84, 109 + 77};
        int[] better = {1, 1, 1, 2};
        for (int i = 0; i < numbers.length; i++) {
            x.table(GOOD, numbers[i]);
            due("29 TABLE: " + numbers[i], x.surprise(0, 2), surprises[i]);
            due("30 better", x.better(0), better[i]);
        }
    }

    /** "int other(int pupil, int rule, int card, int side) .. NONE." */
    private static void otherOfNone() {
        LessonCards x = Made.cards(2, 1);
        Made.startAndAnswer(x, EASY);
        due("31 rule -1", x.other(0, -1, 0, 0), NONE);
        due("31 rule 0", x.other(0, 0, 0, 0), 4000);
        due("31 rule 2", x.other(0, 2, 0, 0), 6000);
        due("31 rule 3", x.other(0, 3, 0, 0), NONE);
        due("31 pupil -1", x.other(-1, 0, 0, 0), NONE);
        due("31 pupil 3", x.other(3, 0, 0, 0), 0);
        due("31 pupil 4", x.other(4, 0, 0, 0), NONE);
        due("31 card -1", x.other(0, 0, -1, 0), NONE);
        due("31 card 1", x.other(0, 1, 1, 0), 6000);
        due("31 card 2", x.other(0, 1, 2, 0), NONE);
        due("31 side -1", x.other(0, 0, 0, -1), NONE);
        due("31 side 1", x.other(0, 0, 0, 1), 0);
        due("31 side 2", x.other(0, 0, 0, 2), NONE);
        due("31 side 4, which is not card 1's first", x.other(0, 0, 0, 4), NONE);
        due("31 side -4 of card 1, which is not card 0's first", x.other(0, 0, 1, -4), NONE);
        for (int far : FAR_OFF) {
            due("31 far off", x.other(far, 0, 0, 0), NONE);
            due("31 far off", x.other(0, far, 0, 0), NONE);
            due("31 far off", x.other(0, 0, far, 0), NONE);
            due("31 far off", x.other(0, 0, 0, far), NONE);
        }
    }

    /** "STRENGTH that a side would have for a pupil if all answers had been by that RULE": 0 of a NEW one. */
    private static void otherOfEachSide() {
        LessonCards x = Made.cards(2);
        for (int rule = 0; rule <= 2; rule++) {
            due("31 NEW", x.other(0, rule, 0, 1), 0);
        }
        x.start(0);
        x.answer(0, AGAIN);
        int[] first = {1000, 500, 500};
        for (int rule = 0; rule <= 2; rule++) {
            due("31 by AGAIN", x.other(0, rule, 0, 0), first[rule]);
            due("31 NEW", x.other(0, rule, 0, 1), 0);
            due("31 NEW by another", x.other(1, rule, 0, 0), 0);
        }
        x.undo();
        for (int rule = 0; rule <= 2; rule++) {
            due("31 taken back", x.other(0, rule, 0, 0), 0);
        }
        x.card(4);
        due("31 of a card made since", x.other(0, 0, 1, 3), 0);
    }

    /** A memory by another rule stops where its rule stops. */
    private static void otherStops() {
        LessonCards x = Made.likeCards(1);
        for (int i = 0; i < 7; i++) {
            Made.again(x, 500, EASY);
        }
        due("14 BOX 9", x.memory(0, 0, 0, 0), 512000);
        due("31 by BOXES", x.other(0, 0, 0, 0), 512000);
        due("31 by TABLE: 6000 times 3 to the power of 6 is beyond", x.other(0, 2, 0, 0), 4000000);
        int[] numbers = {2955, 2956, 100000, 662, 661, 1};
        int[] strengths = {3994787, 4000000, 4000000, 503, 500, 500};
        for (int i = 0; i < numbers.length; i++) {
            x.table(EASY, numbers[i]);
            due("31 by TABLE, " + numbers[i], x.other(0, 2, 0, 0), strengths[i]);
        }
    }

    /** "1 if each memory of a pupil is what THE LOG makes of it ..; else 0. .. NONE." */
    private static void checkOfNone() {
        LessonCards x = new LessonCards();
        due("32 pupil -1", x.check(-1), NONE);
        due("32 pupil 0, no cards", x.check(0), 1);
        due("32 pupil 3, no cards", x.check(3), 1);
        due("32 pupil 4", x.check(4), NONE);
        for (int far : FAR_OFF) {
            due("32 far off", x.check(far), NONE);
        }
        x.card(4);
        due("32 NEW ones", x.check(3), 1);
        x.start(3);
        x.answer(3, GOOD);
        due("32 one answer", x.check(3), 1);
        due("32 of another", x.check(0), 1);
        x.undo();
        due("32 taken back", x.check(3), 1);
    }

    /** "each answer by the RULE, and TABLE, of when it was given": whatever they become. */
    private static void checkAfterEachCall() {
        LessonCards x = Made.cards(1, 2);
        for (int i = 0; i < 24; i++) {
            x.rule(i % 3);
            x.table(i % 4, 1 + 4321 * i % 100000);
            if (x.start(0) > 0) {
                x.answer(0, i % 4);
            }
            due("32 answered", x.check(0), 1);
            x.table(i % 4, 100000);
            x.rule((i + 1) % 3);
            due("32 by another rule and table now", x.check(0), 1);
            x.surprise(0, 2);
            x.plan(0, 59);
            due("32 nothing changed by them", x.check(0), 1);
            if (i % 7 == 6) {
                x.undo();
                due("32 taken back", x.check(0), 1);
            }
            x.day(0, 1 + i);
        }
    }

    /** "An object is used for at most 512 calls": the last of them is answered like any. */
    private static void asManyAnswersAsCallsBear() {
        int cards = 16;
        LessonCards x = Made.likeCards(cards);
        x.most(400, 100);
        int calls = cards + 1;
        int answers = 0;
        while (calls + cards + 2 <= Run.CALLS - 8) {
            x.start(0);
            for (int i = 0; i < cards; i++) {
                x.answer(0, HARD);
                answers++;
            }
            x.day(0, 1);
            calls += cards + 2;
        }
        due("27 all of them", x.log(), answers);
        due("28 the last of them", x.logged(answers - 1, 1), cards - 1);
        due("28 none behind it", x.logged(answers, 1), NONE);
        due("29 109 each but for the first ones", x.surprise(0, 0), 109L * (answers - cards));
        due("32 check", x.check(0), 1);
        due("13 undo", x.undo(), answers - 1);
        while (calls + 6 < Run.CALLS - 1) {
            x.log();
            calls++;
        }
        due("30 the last call: by STRENGTHS they would have been KNOWN longer", x.better(0), 1);
    }
}
