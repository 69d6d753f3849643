/** What the document says of CHANCE, DUE, KNOWN and LEECHES (part 1, promises 14 to 18), at its boundaries. */
public final class MemoryEdgesTest {
    private static final int NONE = Made.NONE, NOTHING = -2;
    private static final int AGAIN = Made.AGAIN, HARD = Made.HARD, GOOD = Made.GOOD, EASY = Made.EASY;
    private static final int[] FAR_OFF = {Integer.MIN_VALUE, -1000, 1000, Integer.MAX_VALUE};

    public static void main(String[] args) {
        chanceByDays();
        chanceLosesItsRest();
        chanceIsZeroInTheEnd();
        chanceOfTheGreatestDay();
        chanceOfNewOnes();
        dueBelow900();
        dueOfTheStrongest();
        knownIsNotDue();
        leechByEightAgains();
        leechIsNeither();
        leechByUndo();
        dayOfNewOnes();
        buriedOrNot();
        whatZeroToNine();
        whenAheadOnAndBehind();
        whenRoundsUp();
        whenBeyondTheLastDay();
        whenOfNone();
        pupilCounts();
        pupilOfNone();
        knownOfAllSides();
        meanOfFour();
        Dues.end("MemoryEdgesTest");
    }

    private static void due(String call, long got, long want) {
        Dues.due(call, got, want);
    }

    private static int chance(LessonCards x) {
        return x.memory(0, 0, 0, 5);
    }

    /** Whether the side is DUE or KNOWN, by memory(), pupil(), known() and start(). */
    private static void isDue(String what, LessonCards x, boolean is) {
        due(what + ": 14 DUE", x.memory(0, 0, 0, 6), is ? 1 : 0);
        due(what + ": 14 KNOWN", x.memory(0, 0, 0, 7), is ? 0 : 1);
        due(what + ": 16 DUE", x.pupil(0, 1), is ? 1 : 0);
        due(what + ": 16 KNOWN", x.pupil(0, 0), is ? 0 : 1);
        due(what + ": 17 KNOWN", x.known(0, 0), is ? 0 : 1);
        due(what + ": 19 planned today", x.plan(0, 0), is ? 1 : 0);
        due(what + ": 15 today", x.when(0, 0, 0) == x.pupil(0, 5) ? 1 : 0, is ? 1 : 0);
        due(what + ": 8 asked", x.start(0), is ? 1 : 0);
    }

    /** "F(0) is 1000, F(i + 1) is F(i) times 9934 divided by 10000": a day is a step where STRENGTH is 16000. */
    private static void chanceByDays() {
        LessonCards x = Made.strong(16000);
        int[] first = {1000, 993, 986, 979, 972, 965, 958, 951, 944, 937, 930, 923, 916, 909, 903, 897, 891, 885};
        for (int day = 0; day < 200; day++) {
            due("14 F(" + day + ")", chance(x), day < first.length ? first[day] : Made.chance(day));
            x.day(0, 1);
        }
    }

    /** "q being 16000 d divided by STRENGTH (the rest away)". */
    private static void chanceLosesItsRest() {
        int[] strengths = {15999, 16000, 16001, 31999, 32000, 32001, 100000};
        int[] behind1 = {993, 993, 1000, 1000, 1000, 1000, 1000};
        int[] behind2 = {986, 986, 993, 993, 993, 1000, 1000};
        for (int i = 0; i < strengths.length; i++) {
            LessonCards x = Made.strong(strengths[i]);
            due("14 on the day of the answer", chance(x), 1000);
            x.day(0, 1);
            due("14 a day behind, " + strengths[i], chance(x), behind1[i]);
            x.day(0, 1);
            due("14 2 days behind, " + strengths[i], chance(x), behind2[i]);
        }
        LessonCards x = Made.strong(100000);
        x.day(0, 6);
        due("14 q is 0.96", chance(x), 1000);
        x.day(0, 1);
        due("14 q is 1.12", chance(x), 993);
        LessonCards y = Made.strong(500);
        y.day(0, 1);
        due("14 q is 32 for the weakest", chance(y), Made.chance(32));
    }

    /** F comes down to 1 at 382, to 0 at 383, and stays. */
    private static void chanceIsZeroInTheEnd() {
        LessonCards x = Made.strong(16000);
        Made.days(x, 379);
        for (int chance = 4; chance >= 1; chance--) {
            due("14 near the end", chance(x), chance);
            x.day(0, 1);
        }
        due("14 F(383)", chance(x), 0);
        for (int day = 384; day < 405; day++) {
            x.day(0, 1);
            due("14 F(" + day + ")", chance(x), 0);
        }
        isDue("CHANCE 0", x, true);
        due("18 nothing", x.mean(0, 0), 0);
    }

    /** The greatest q there can be, and the strongest side's CHANCE behind 100000 days. */
    private static void chanceOfTheGreatestDay() {
        LessonCards x = Made.strong(500);
        Made.days(x, 100000);
        due("14 q is 3200000", chance(x), 0);
        isDue("the weakest on the last day", x, true);
        LessonCards y = Made.veryStrong(100000, 40000);
        Made.days(y, 95749);
        due("14 q is 382", chance(y), 1);
        y.day(0, 1);
        due("14 q is 383", chance(y), 0);
        Made.days(y, 100000 - 95750);
        due("14 q is 400", chance(y), 0);
        isDue("the strongest on the last day", y, true);
    }

    /** "CHANCE today (0 of a NEW one)": it is neither DUE nor KNOWN, on the first day and on the last. */
    private static void chanceOfNewOnes() {
        LessonCards x = Made.likeCards(1);
        for (int i = 0; i < 2; i++) {
            due("14 CHANCE", chance(x), 0);
            due("14 DUE", x.memory(0, 0, 0, 6), 0);
            due("14 KNOWN", x.memory(0, 0, 0, 7), 0);
            due("14 LEECH", x.memory(0, 0, 0, 8), 0);
            due("16 DUE", x.pupil(0, 1), 0);
            due("16 NEW", x.pupil(0, 2), 1);
            due("15 never", x.when(0, 0, 0), NONE);
            due("17 KNOWN", x.known(0, 0), 0);
            due("18 nothing", x.mean(0, 0), 0);
            Made.days(x, 100000);
        }
    }

    /** "A side is DUE on a day if its CHANCE then is below 900": F(14) is 903, F(15) is 897. */
    private static void dueBelow900() {
        LessonCards x = Made.strong(1067);
        x.day(0, 1);
        due("14 q is 14", chance(x), 903);
        isDue("903", x, false);
        x = Made.strong(1066);
        x.day(0, 1);
        due("14 q is 15", chance(x), 897);
        isDue("897", x, true);
        x = Made.strong(1000);
        x.day(0, 1);
        due("14 q is 16", chance(x), 891);
        isDue("891", x, true);
        x = Made.strong(16000);
        x.day(0, 14);
        isDue("14 days", x, false);
        x.day(0, 1);
        isDue("15 days", x, true);
    }

    /** STRENGTH 4000000: DUE on the 3750th day, not the day ahead of it. */
    private static void dueOfTheStrongest() {
        LessonCards x = Made.veryStrong(100000, 40000);
        Made.days(x, 3749);
        due("14 q is 14", chance(x), 903);
        isDue("3749 days", x, false);
        x.day(0, 1);
        due("14 q is 15", chance(x), 897);
        isDue("3750 days", x, true);
        x.day(0, 1);
        isDue("3751 days", x, true);
    }

    /** "KNOWN if it is not NEW and not DUE": from the answer on, till it is DUE. */
    private static void knownIsNotDue() {
        LessonCards x = Made.likeCards(1);
        due("14 NEW: not KNOWN", x.memory(0, 0, 0, 7), 0);
        x.start(0);
        due("14 asked: not KNOWN", x.memory(0, 0, 0, 7), 0);
        x.answer(0, AGAIN);
        due("14 answered, were it AGAIN: KNOWN", x.memory(0, 0, 0, 7), 1);
        due("17 KNOWN, though in THE ROW", x.known(0, 0), 1);
        x.answer(0, HARD);
        isDue("on its day", x, false);
        x.day(0, 1);
        isDue("a day later", x, true);
        x.answer(0, HARD);
        isDue("answered", x, false);
        x.undo();
        isDue("taken back", x, true);
    }

    /** Pupil 0's only side comes to so many AGAINS (1 .. 9), three a day, each on a day on which it is DUE. */
    private static LessonCards withAgains(int agains) {
        LessonCards x = Made.likeCards(1);
        for (int i = 0; i < agains; i++) {
            if (i % 3 == 0) {
                x.day(0, 1);
                x.start(0);
            }
            x.answer(0, AGAIN);
        }
        return x;
    }

    /** "LEECH: a side with 8 AGAINS or more". */
    private static void leechByEightAgains() {
        for (int agains = 6; agains <= 8; agains++) {
            LessonCards x = withAgains(agains);
            boolean is = agains == 8;
            due("14 AGAINS", x.memory(0, 0, 0, 4), agains);
            due("14 LEECH by " + agains, x.memory(0, 0, 0, 8), is ? 1 : 0);
            due("16 LEECHES", x.pupil(0, 3), is ? 1 : 0);
            due("14 KNOWN", x.memory(0, 0, 0, 7), is ? 0 : 1);
            due("16 KNOWN", x.pupil(0, 0), is ? 0 : 1);
            due("17 KNOWN", x.known(0, 0), is ? 0 : 1);
            due("14 CHANCE", chance(x), 1000);
            due("15 when", x.when(0, 0, 0), is ? NONE : x.pupil(0, 5) + 1);
        }
        LessonCards x = withAgains(8);
        due("10 not asked a ninth time", x.answer(0, AGAIN), Made.EMPTY);
        due("14 AGAINS", x.memory(0, 0, 0, 4), 8);
    }

    /** "it is neither DUE nor asked, and not KNOWN": a day later, and with 7 AGAINS beside it. */
    private static void leechIsNeither() {
        for (int agains = 7; agains <= 8; agains++) {
            LessonCards x = withAgains(agains);
            int due = agains == 7 ? 1 : 0;
            x.day(0, 1);
            due("14 CHANCE", chance(x), 891);
            due("14 DUE", x.memory(0, 0, 0, 6), due);
            due("14 KNOWN", x.memory(0, 0, 0, 7), 0);
            due("16 DUE", x.pupil(0, 1), due);
            due("16 NEW", x.pupil(0, 2), 0);
            due("16 LEECHES", x.pupil(0, 3), 1 - due);
            due("19 planned", x.plan(0, 0), due);
            due("20 put", x.even(0, 0), due);
            due("21 load", x.load(0), due);
            due("22 put", x.put(0, 0), due == 1 ? 0 : NONE);
            due("18 its CHANCE counts", x.mean(0, 0), 891);
            due("8 asked", x.start(0), due);
        }
    }

    /** By undo() a LEECH is none, and by one AGAIN it is one again. */
    private static void leechByUndo() {
        LessonCards x = withAgains(8);
        x.undo();
        due("14 7 AGAINS", x.memory(0, 0, 0, 4), 7);
        due("14 no LEECH", x.memory(0, 0, 0, 8), 0);
        due("14 KNOWN", x.memory(0, 0, 0, 7), 1);
        due("15 when", x.when(0, 0, 0), 4);
        x.day(0, 1);
        due("8 asked", x.start(0), 1);
        due("10 the eighth", x.answer(0, AGAIN), 0);
        due("14 a LEECH", x.memory(0, 0, 0, 8), 1);
        LessonCards y = withAgains(7);
        y.answer(0, GOOD);
        due("14 GOOD makes no LEECH", y.memory(0, 0, 0, 8), 0);
    }

    /** "3 the DAY of the latest answer (-1: NEW)": an answer on day 0 is beside it. */
    private static void dayOfNewOnes() {
        LessonCards x = Made.likeCards(2);
        x.start(0);
        due("14 NEW", x.memory(0, 0, 0, 3), -1);
        x.answer(0, GOOD);
        due("14 on day 0", x.memory(0, 0, 0, 3), 0);
        due("14 the other is NEW", x.memory(0, 1, 0, 3), -1);
        due("14 by another pupil NEW", x.memory(1, 0, 0, 3), -1);
        x.day(0, 1);
        due("14 a day later", x.memory(0, 0, 0, 3), 0);
        due("14 NEW a day later", x.memory(0, 1, 0, 3), -1);
        x.start(0);
        x.answer(0, GOOD);
        due("14 on day 1", x.memory(0, 1, 0, 3), 1);
        x.undo();
        due("14 NEW again", x.memory(0, 1, 0, 3), -1);
        x.undo();
        due("14 NEW again", x.memory(0, 0, 0, 3), -1);
    }

    /** "9 BURIED (1, 0)": for that pupil, card and side alone; what is DUE or KNOWN is so all the same. */
    private static void buriedOrNot() {
        LessonCards x = Made.cards(2, 1);
        Made.startAndAnswer(x, HARD);
        due("14 not BURIED", x.memory(0, 0, 0, 9), 0);
        x.bury(0, 0, 0);
        due("14 BURIED", x.memory(0, 0, 0, 9), 1);
        due("14 not the side beside it", x.memory(0, 0, 1, 9), 0);
        due("14 not the card beside it", x.memory(0, 1, 0, 9), 0);
        due("14 not by the pupil beside", x.memory(1, 0, 0, 9), 0);
        due("14 KNOWN", x.memory(0, 0, 0, 7), 1);
        x.day(0, 1);
        due("14 not BURIED", x.memory(0, 0, 0, 9), 0);
        x.bury(0, 0, 0);
        due("14 DUE", x.memory(0, 0, 0, 6), 1);
        due("15 today", x.when(0, 0, 0), 1);
        due("16 DUE", x.pupil(0, 1), 2);
    }

    /** "-2: no such pupil, card, side, what." */
    private static void whatZeroToNine() {
        LessonCards x = Made.cards(2, 4);
        due("14 what -1", x.memory(0, 0, 0, -1), NOTHING);
        due("14 what 0", x.memory(0, 0, 0, 0), 0);
        due("14 what 9", x.memory(0, 0, 0, 9), 0);
        due("14 what 10", x.memory(0, 0, 0, 10), NOTHING);
        due("14 pupil -1", x.memory(-1, 0, 0, 1), NOTHING);
        due("14 pupil 0", x.memory(0, 0, 0, 1), 2500);
        due("14 pupil 3", x.memory(3, 0, 0, 1), 2500);
        due("14 pupil 4", x.memory(4, 0, 0, 1), NOTHING);
        due("14 card -1", x.memory(0, -1, 0, 1), NOTHING);
        due("14 card 1", x.memory(0, 1, 0, 1), 2500);
        due("14 card 2", x.memory(0, 2, 0, 1), NOTHING);
        due("14 side -1", x.memory(0, 0, -1, 1), NOTHING);
        due("14 side -1 of card 1", x.memory(0, 1, -1, 1), NOTHING);
        due("14 side 1", x.memory(0, 0, 1, 1), 2500);
        due("14 side 2", x.memory(0, 0, 2, 1), NOTHING);
        due("14 side 3", x.memory(0, 0, 3, 1), NOTHING);
        due("14 side 4, which is not card 1's first", x.memory(0, 0, 4, 1), NOTHING);
        due("14 side 4 of card -1, which is not card 0's first", x.memory(0, -1, 4, 1), NOTHING);
        for (int far : FAR_OFF) {
            due("14 far off", x.memory(far, 0, 0, 1), NOTHING);
            due("14 far off", x.memory(0, far, 0, 1), NOTHING);
            due("14 far off", x.memory(0, 0, far, 1), NOTHING);
            due("14 far off", x.memory(0, 0, 0, far), NOTHING);
        }
        due("14 a card 4 times which is 0 for the machine", x.memory(0, 1 << 30, 0, 1), NOTHING);
    }

    /** "On which day, from TODAY on, a side is DUE first, if it is not asked", "when() tells a day, TODAY at least." */
    private static void whenAheadOnAndBehind() {
        LessonCards x = Made.likeCards(1);
        x.day(0, 10);
        x.start(0);
        x.answer(0, EASY);
        int[] days = {14, 14, 14, 14, 14, 15, 16};
        for (int i = 0; i < days.length; i++) {
            due("15 on day " + (10 + i), x.when(0, 0, 0), days[i]);
            x.day(0, 1);
        }
        Made.days(x, 99983);
        due("15 on the last day", x.when(0, 0, 0), 100000);
    }

    /** The first day whose CHANCE, rests away, is below 900. */
    private static void whenRoundsUp() {
        int[] strengths = {500, 1066, 1067, 2133, 2134, 63999, 64000, 64001, 100000};
        int[] days = {1, 1, 2, 2, 3, 60, 60, 61, 94};
        for (int i = 0; i < strengths.length; i++) {
            LessonCards x = Made.strong(strengths[i]);
            due("15 of STRENGTH " + strengths[i], x.when(0, 0, 0), days[i]);
            Made.days(x, days[i] - 1);
            due("15 the day ahead", x.when(0, 0, 0), days[i]);
            due("14 not DUE", x.memory(0, 0, 0, 6), 0);
            x.day(0, 1);
            due("15 that day", x.when(0, 0, 0), days[i]);
            due("14 DUE", x.memory(0, 0, 0, 6), 1);
            x.day(0, 1);
            due("15 the day behind", x.when(0, 0, 0), days[i] + 1);
        }
    }

    /** A day is told though day() never comes to it. */
    private static void whenBeyondTheLastDay() {
        LessonCards x = Made.likeCards(1);
        Made.days(x, 99996);
        x.start(0);
        x.answer(0, EASY);
        due("15 the last day", x.when(0, 0, 0), 100000);
        x.undo();
        x.day(0, 1);
        x.start(0);
        x.answer(0, EASY);
        due("15 beyond it", x.when(0, 0, 0), 100001);
        LessonCards y = Made.likeCards(1);
        Made.days(y, 100000);
        y.rule(Made.TABLE);
        y.start(0);
        y.answer(0, AGAIN);
        y.table(AGAIN, 100000);
        y.answer(0, AGAIN);
        y.table(GOOD, 100000);
        y.answer(0, GOOD);
        due("14 the strongest", y.memory(0, 0, 0, 0), 4000000);
        due("15 far beyond it", y.when(0, 0, 0), 103750);
    }

    /** "NONE: there is no such side; it is NEW, or a LEECH." */
    private static void whenOfNone() {
        LessonCards x = Made.cards(2, 1);
        Made.startAndAnswer(x, GOOD);
        due("15 there", x.when(0, 0, 0), 2);
        due("15 NEW", x.when(0, 0, 1), NONE);
        due("15 no side 2", x.when(0, 0, 2), NONE);
        due("15 no side -1", x.when(0, 1, -1), NONE);
        due("15 no side 4, which is not card 1's first", x.when(0, 0, 4), NONE);
        due("15 the last card", x.when(0, 1, 0), 2);
        due("15 no card 2", x.when(0, 2, 0), NONE);
        due("15 no card -1", x.when(0, -1, 0), NONE);
        due("15 NEW by another", x.when(3, 0, 0), NONE);
        due("15 no pupil 4", x.when(4, 0, 0), NONE);
        due("15 no pupil -1", x.when(-1, 0, 0), NONE);
        for (int far : FAR_OFF) {
            due("15 far off", x.when(far, 0, 0), NONE);
            due("15 far off", x.when(0, far, 0), NONE);
            due("15 far off", x.when(0, 0, far), NONE);
        }
    }

    /** Counts of none, of one, and of all. */
    private static void pupilCounts() {
        LessonCards x = Made.cards(4, 1);
        counts("nothing learnt", x, 0, 0, 5, 0, 0, 0);
        x.start(0);
        counts("asked", x, 0, 0, 5, 0, 2, 0);
        x.answer(0, GOOD);
        counts("one answered", x, 0, 0, 4, 0, 1, 0);
        x.answer(0, GOOD);
        counts("a card KNOWN", x, 1, 0, 3, 0, 0, 0);
        for (int i = 0; i < 2; i++) {
            Made.startAndAnswer(x, GOOD);
        }
        counts("all sides but one", x, 1, 0, 1, 0, 0, 0);
        Made.startAndAnswer(x, EASY);
        counts("all KNOWN", x, 2, 0, 0, 0, 0, 0);
        x.day(0, 1);
        counts("KNOWN yet", x, 2, 0, 0, 0, 0, 1);
        x.day(0, 1);
        counts("all DUE but one", x, 0, 4, 0, 0, 0, 2);
        x.day(0, 2);
        counts("all DUE", x, 0, 5, 0, 0, 0, 4);
        x.start(0);
        counts("one side a card", x, 0, 5, 0, 0, 2, 4);
        counts("one pupil's day is not another's", x, 0, 5, 0, 0, 2, 4);
        due("16 another's TODAY", x.pupil(3, 5), 0);
        due("16 another's NEW ones", x.pupil(3, 2), 5);
    }

    private static void counts(String what, LessonCards x, int... counts) {
        for (int i = 0; i < counts.length; i++) {
            due("16 " + what + ": " + i, x.pupil(0, i), counts[i]);
        }
    }

    /** "what 0 .. 5 TODAY. NONE." */
    private static void pupilOfNone() {
        LessonCards x = Made.likeCards(1);
        x.day(0, 7);
        due("16 what -1", x.pupil(0, -1), NONE);
        due("16 what 0", x.pupil(0, 0), 0);
        due("16 what 5", x.pupil(0, 5), 7);
        due("16 what 6", x.pupil(0, 6), NONE);
        due("16 pupil -1", x.pupil(-1, 5), NONE);
        due("16 pupil 3", x.pupil(3, 5), 0);
        due("16 pupil 4", x.pupil(4, 5), NONE);
        for (int far : FAR_OFF) {
            due("16 far off", x.pupil(far, 0), NONE);
            due("16 far off", x.pupil(0, far), NONE);
        }
    }

    /** "a card is KNOWN if all its sides are": one side short of it, and all, for 1 to 4 sides. */
    private static void knownOfAllSides() {
        for (int sides = 1; sides <= 4; sides++) {
            LessonCards x = Made.cards(sides);
            for (int i = 0; i < sides; i++) {
                due("17 a side is NEW yet", x.known(0, 0), 0);
                due("8 the next side", x.start(0), 1);
                x.answer(0, i == sides - 1 ? HARD : EASY);
            }
            due("17 all sides", x.known(0, 0), 1);
            due("17 not by the pupil beside", x.known(1, 0), 0);
            x.day(0, 1);
            due("17 the last side is DUE", x.known(0, 0), 0);
            due("8 it", x.start(0), 1);
            due("9 it", x.next(0), sides - 1);
            x.answer(0, HARD);
            due("17 KNOWN", x.known(0, 0), 1);
            x.undo();
            due("17 not KNOWN", x.known(0, 0), 0);
        }
        LessonCards x = Made.likeCards(2);
        due("17 card -1", x.known(0, -1), NONE);
        due("17 card 1", x.known(0, 1), 0);
        due("17 card 2", x.known(0, 2), NONE);
        due("17 pupil -1", x.known(-1, 0), NONE);
        due("17 pupil 3", x.known(3, 0), 0);
        due("17 pupil 4", x.known(4, 0), NONE);
    }

    /** "The sum of the CHANCES today, over all pupils, of a side (0 for NEW ones)": none, one, and four. */
    private static void meanOfFour() {
        LessonCards x = Made.cards(2, 1);
        int[] sums = {1000, 2000, 3000, 4000};
        due("18 none", x.mean(0, 0), 0);
        for (int pupil = 0; pupil < 4; pupil++) {
            x.start(pupil);
            x.answer(pupil, HARD);
            due("18 " + (pupil + 1) + " pupils", x.mean(0, 0), sums[pupil]);
        }
        due("18 the side beside it", x.mean(0, 1), 0);
        due("18 the card beside it", x.mean(1, 0), 0);
        x.day(3, 1);
        due("18 each by its own TODAY", x.mean(0, 0), 3891);
        x.day(0, 1000);
        due("18 one has forgotten it", x.mean(0, 0), 2891);
        due("18 side -1", x.mean(0, -1), NONE);
        due("18 side 2", x.mean(0, 2), NONE);
        due("18 side 4, which is not card 1's first", x.mean(0, 4), NONE);
        due("18 card -1", x.mean(-1, 0), NONE);
        due("18 card 2", x.mean(2, 0), NONE);
        for (int far : FAR_OFF) {
            due("18 far off", x.mean(far, 0), NONE);
            due("18 far off", x.mean(0, far), NONE);
        }
    }
}
