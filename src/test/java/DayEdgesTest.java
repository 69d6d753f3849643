/** What the document says of days, THE ROW and THE LOG's length (part 2, promises 7 to 13), at its boundaries. */
public final class DayEdgesTest {
    private static final int NONE = Made.NONE, EMPTY = Made.EMPTY, OPEN = Made.OPEN, FULL = Made.FULL;
    private static final int AGAIN = Made.AGAIN, HARD = Made.HARD, GOOD = Made.GOOD, EASY = Made.EASY;

    public static void main(String[] args) {
        dayByOneToThousand();
        dayUpTo100000();
        dayEmptiesTheRow();
        startOfNone();
        startIsOpen();
        ofLikeChancesTheLeast();
        byChanceThenByCard();
        dueNotBuried();
        cutOffAtMostDue();
        cutOffCardsMayComeNew();
        freshByCard();
        freshOnKnownCardsAlone();
        freshOnAllSides();
        againTwiceMore();
        againTwiceMoreForEachSide();
        againOfALeech();
        againGoesBehindAll();
        answerOfNone();
        nextOfNone();
        skipOfOneAndTwo();
        buryAtTheEnds();
        buryTillAnotherDay();
        undoToTheFirst();
        undoEmptiesTheRow();
        undoLeavesHowOften();
        undoOnALaterDay();
        theLogIsFull();
        Dues.end("DayEdgesTest");
    }

    private static void due(String call, long got, long want) {
        Dues.due(call, got, want);
    }

    /** THE ROW of a pupil, by next() and skip(): its places in their order. */
    private static void row(String what, LessonCards x, int pupil, int... places) {
        due(what + ": how many", x.pupil(pupil, 4), places.length);
        for (int i = 0; i < places.length; i++) {
            due(what + ": place " + i, x.next(pupil), places[i]);
            x.skip(pupil);
        }
        due(what + ": then the first", x.next(pupil), places.length == 0 ? EMPTY : places[0]);
    }

    /** "TODAY of a pupil becomes n (1 .. 1000) days later". */
    private static void dayByOneToThousand() {
        LessonCards x = Made.likeCards(1);
        x.start(0);
        for (int n : new int[] {0, 1001, -1, 1002, Integer.MIN_VALUE, Integer.MAX_VALUE}) {
            due("7 day(0, " + n + ")", x.day(0, n), NONE);
            due("7 TODAY stays", x.pupil(0, 5), 0);
            due("7 THE ROW stays", x.next(0), 0);
        }
        due("7 the least", x.day(0, 1), 1);
        due("7 THE ROW is empty", x.next(0), EMPTY);
        due("7 the greatest", x.day(0, 1000), 1001);
        due("7 one less", x.day(0, 999), 2000);
        due("7 one more than the least", x.day(0, 2), 2002);
        due("7 the others' day", x.pupil(3, 5), 0);
        due("7 pupil -1", x.day(-1, 1), NONE);
        due("7 pupil 4", x.day(4, 1), NONE);
        due("7 the last pupil", x.day(3, 1), 1);
    }

    /** "at most 100000", "day() beyond 100000 is NONE". */
    private static void dayUpTo100000() {
        LessonCards x = Made.likeCards(1);
        Made.days(x, 99000);
        due("7 a day beyond by 1", x.day(0, 1001), NONE);
        due("7 one day later", x.day(0, 1), 99001);
        due("7 1000 are one too many", x.day(0, 1000), NONE);
        due("7 the last day but one", x.day(0, 998), 99999);
        x.start(0);
        x.bury(0, 0, 0);
        due("7 2 are one too many", x.day(0, 2), NONE);
        due("7 TODAY stays", x.pupil(0, 5), 99999);
        due("7 BURIED stays", x.memory(0, 0, 0, 9), 1);
        due("7 the last day", x.day(0, 1), 100000);
        due("7 nothing is BURIED", x.memory(0, 0, 0, 9), 0);
        due("7 none behind it", x.day(0, 1), NONE);
        due("7 none behind it", x.day(0, 1000), NONE);
        due("7 none behind it", x.day(0, Integer.MAX_VALUE), NONE);
        due("8 it begins all the same", x.start(0), 1);
        due("7 none behind it", x.day(0, 1), NONE);
        due("10 it is answered", x.answer(0, GOOD), 0);
        due("28 on that day", x.logged(0, 3), 100000);
        due("14 on that day", x.memory(0, 0, 0, 3), 100000);
        LessonCards y = Made.likeCards(1);
        Made.days(y, 99000);
        due("7 1000 end on the last day", y.day(0, 1000), 100000);
    }

    /** "THE ROW is empty then, nothing BURIED". */
    private static void dayEmptiesTheRow() {
        LessonCards x = Made.likeCards(3);
        x.start(0);
        x.start(1);
        x.bury(0, 1, 0);
        x.bury(1, 1, 0);
        due("7 a day later", x.day(0, 1), 1);
        due("7 THE ROW is empty", x.pupil(0, 4), 0);
        due("7 none BURIED", x.memory(0, 1, 0, 9), 0);
        due("7 the other's ROW stays", x.pupil(1, 4), 2);
        due("7 the other's BURIED stays", x.memory(1, 1, 0, 9), 1);
        due("8 all three may come", x.start(0), 3);
        due("12 BURIED anew", x.bury(0, 1, 0), 2);
    }

    /** "how many are in it": 0 where nothing is to be asked, which is not OPEN. */
    private static void startOfNone() {
        LessonCards x = Made.likeCards(1);
        due("8 pupil -1", x.start(-1), NONE);
        due("8 pupil 4", x.start(4), NONE);
        x.most(0, 0);
        due("8 none at all", x.start(0), 0);
        due("8 not OPEN by that", x.start(0), 0);
        x.most(0, 1);
        due("8 one", x.start(0), 1);
        x.answer(0, GOOD);
        due("8 nothing DUE or NEW", x.start(0), 0);
        due("8 not OPEN by that", x.start(0), 0);
    }

    /** "OPEN (-5): a pupil's ROW is not empty": with one in it, and with none. */
    private static void startIsOpen() {
        LessonCards x = Made.likeCards(2);
        due("8 two", x.start(3), 2);
        due("8 OPEN", x.start(3), OPEN);
        x.skip(3);
        due("8 OPEN", x.start(3), OPEN);
        row("8 OPEN leaves THE ROW", x, 3, 4, 0);
        x.answer(3, GOOD);
        due("8 one is left: OPEN", x.start(3), OPEN);
        x.bury(3, 0, 0);
        due("8 none is left", x.start(3), 0);
        due("8 NONE ahead of OPEN", x.start(4), NONE);
        due("8 another pupil", x.start(0), 2);
        x.day(0, 1);
        due("8 a new day is not OPEN", x.start(0), 2);
        x.answer(0, GOOD);
        x.undo();
        due("8 nor is it behind undo()", x.start(0), 2);
    }

    /** "the one with the least CHANCE (of like ones the least)". */
    private static void ofLikeChancesTheLeast() {
        LessonCards x = Made.cards(4);
        x.start(0);
        x.answer(0, GOOD);
        for (int side = 1; side < 4; side++) {
            x.start(0);
            x.answer(0, HARD);
        }
        x.day(0, 2);
        due("14 side 0 is better known", x.memory(0, 0, 0, 5), Made.chance(16));
        due("14 than side 1", x.memory(0, 0, 1, 5), Made.chance(32));
        due("8 one side of the card", x.start(0), 1);
        due("8 of like ones the least", x.next(0), 1);
        x.answer(0, GOOD);
        due("8 then", x.start(0), 1);
        due("8 the next of like ones", x.next(0), 2);
        x.bury(0, 0, 2);
        due("8 BURIED ones aside", x.start(0), 1);
        due("8 the last of like ones", x.next(0), 3);
        x.answer(0, GOOD);
        due("8 then", x.start(0), 1);
        due("8 the better known one", x.next(0), 0);
        x.answer(0, GOOD);
        due("8 side 2 is DUE, but BURIED", x.start(0), 0);
        LessonCards y = Made.cards(2);
        strengthen(y, 1066);
        strengthen(y, 1060);
        due("14 side 1 is weaker", y.memory(0, 0, 1, 0), 1060);
        y.day(0, 1);
        due("14 but of like CHANCE, rests away", y.memory(0, 0, 1, 5), y.memory(0, 0, 0, 5));
        due("8 one of them", y.start(0), 1);
        due("8 the least", y.next(0), 0);
    }

    /** Pupil 0's NEXT, a NEW side, comes to a STRENGTH today, by AGAIN twice and GOOD. */
    private static void strengthen(LessonCards x, int strength) {
        x.rule(Made.TABLE);
        x.start(0);
        x.answer(0, AGAIN);
        x.table(AGAIN, 2 * strength);
        x.answer(0, AGAIN);
        x.table(GOOD, 1000);
        x.answer(0, GOOD);
    }

    /** "these by CHANCE, then by card". */
    private static void byChanceThenByCard() {
        LessonCards x = Made.likeCards(5);
        int[] answers = {GOOD, HARD, GOOD, HARD, GOOD};
        x.start(0);
        for (int answer : answers) {
            x.answer(0, answer);
        }
        x.day(0, 2);
        x.start(0);
        row("8 by CHANCE, then by card", x, 0, 4, 12, 0, 8, 16);
        x.day(0, 1);
        x.most(3, 0);
        x.start(0);
        row("8 the first three of them", x, 0, 4, 12, 0);
        int[][] orders = {{HARD, GOOD, EASY, 0, 4, 8}, {HARD, EASY, GOOD, 0, 8, 4}, {GOOD, HARD, EASY, 4, 0, 8},
            {GOOD, EASY, HARD, 8, 0, 4}, {EASY, HARD, GOOD, 4, 8, 0}, {EASY, GOOD, HARD, 8, 4, 0}};
        for (int[] order : orders) {
            LessonCards z = Made.likeCards(3);
            z.start(0);
            for (int i = 0; i < 3; i++) {
                z.answer(0, order[i]);
            }
            z.day(0, 4);
            z.start(0);
            row("8 three unlike ones", z, 0, order[3], order[4], order[5]);
        }
        LessonCards y = Made.strong(1066);
        y.card(1);
        y.card(1);
        y.bury(0, 2, 0);
        strengthen(y, 1060);
        y.day(0, 1);
        due("14 of like CHANCE, rests away", y.memory(0, 1, 0, 5), y.memory(0, 0, 0, 5));
        y.start(0);
        row("8 like CHANCES: by card; NEW ones behind", y, 0, 0, 4, 8);
    }

    /** "of each card that has DUE sides (not BURIED today)". */
    private static void dueNotBuried() {
        LessonCards x = Made.cards(2, 1);
        Made.startAndAnswer(x, HARD);
        Made.startAndAnswer(x, HARD);
        x.day(0, 1);
        due("16 three are DUE", x.pupil(0, 1), 3);
        x.bury(0, 0, 0);
        due("8 the other side of the card", x.start(0), 2);
        row("8 by card", x, 0, 1, 4);
        x.bury(0, 0, 1);
        x.bury(0, 1, 0);
        due("8 none", x.start(0), 0);
        due("16 all are DUE yet", x.pupil(0, 1), 3);
        x.day(0, 1);
        due("8 on another day again", x.start(0), 2);
    }

    /** "the first MOST DUE ones of them": one less than there are, as many, one more. */
    private static void cutOffAtMostDue() {
        int[] most = {0, 1, 2, 3, 4};
        for (int one : most) {
            LessonCards x = Made.likeCards(3);
            x.start(0);
            x.answer(0, GOOD);
            x.answer(0, HARD);
            x.answer(0, GOOD);
            x.day(0, 2);
            x.most(one, 0);
            due("8 MOST DUE " + one, x.start(0), Math.min(one, 3));
            due("8 the first of them", x.next(0), one == 0 ? EMPTY : 4);
            if (one >= 2) {
                x.skip(0);
                due("8 the second of them", x.next(0), 0);
            }
        }
    }

    /** "of cards none of whose sides are in THE ROW": "one whose DUE side was cut off may come with a NEW one". */
    private static void cutOffCardsMayComeNew() {
        LessonCards x = Made.cards(2, 2, 2);
        Made.startAndAnswer(x, HARD);
        x.day(0, 1);
        x.most(3, 10);
        x.start(0);
        row("8 no NEW ones of cards in THE ROW", x, 0, 0, 4, 8);
        x.day(0, 1);
        x.most(2, 10);
        x.start(0);
        row("8 a NEW one of the card cut off", x, 0, 0, 4, 9);
        x.day(0, 1);
        x.most(2, 0);
        x.start(0);
        row("8 but no NEW ones at all", x, 0, 0, 4);
        x.day(0, 1);
        x.most(0, 2);
        x.start(0);
        row("8 the first NEW ones, by card", x, 0, 1, 5);
    }

    /** "behind these, by card, the first side that is NEW (not BURIED)". */
    private static void freshByCard() {
        LessonCards x = Made.cards(4, 2, 3);
        x.bury(0, 0, 0);
        x.bury(0, 0, 1);
        x.bury(0, 0, 2);
        x.bury(0, 1, 0);
        x.bury(0, 1, 1);
        x.start(0);
        row("8 the last side; none of all BURIED; the first", x, 0, 3, 8);
        x.answer(0, GOOD);
        x.answer(0, GOOD);
        x.start(0);
        row("8 the next side of card 2 alone", x, 0, 9);
        x.day(0, 1);
        x.start(0);
        row("8 all may come on another day", x, 0, 0, 4, 9);
    }

    /** "that LEAN on KNOWN cards alone": a day ahead of it being DUE, and that day. */
    private static void freshOnKnownCardsAlone() {
        for (int days = 1; days <= 2; days++) {
            LessonCards x = Made.likeCards(3);
            x.lean(2, 0);
            x.lean(2, 1);
            x.start(0);
            x.answer(0, EASY);
            x.answer(0, GOOD);
            x.day(0, days);
            x.most(0, 10);
            due("14 KNOWN", x.memory(0, 1, 0, 7), days == 1 ? 1 : 0);
            due("8 it comes while both are KNOWN", x.start(0), days == 1 ? 1 : 0);
            due("9 it", x.next(0), days == 1 ? 8 : EMPTY);
        }
        int[] strengths = {1066, 1067};
        for (int strength : strengths) {
            LessonCards x = Made.strong(strength);
            x.card(1);
            x.lean(1, 0);
            x.day(0, 1);
            x.most(0, 10);
            due("8 CHANCE 897 or 903: not KNOWN, or KNOWN", x.start(0), strength == 1066 ? 0 : 1);
        }
    }

    /** "a card is KNOWN if all its sides are": a NEW one, a DUE one and a LEECH each keep others waiting. */
    private static void freshOnAllSides() {
        LessonCards x = Made.cards(2, 1);
        x.lean(1, 0);
        x.start(0);
        x.answer(0, EASY);
        due("8 its second side alone", x.start(0), 1);
        due("9 it", x.next(0), 1);
        x.answer(0, HARD);
        due("8 both are KNOWN", x.start(0), 1);
        due("9 the one that leans", x.next(0), 4);
        x.day(0, 1);
        x.bury(0, 0, 1);
        due("8 the second side is DUE, if BURIED", x.start(0), 0);
        LessonCards y = Made.likeCards(2);
        y.lean(1, 0);
        leech(y);
        due("14 a LEECH", y.memory(0, 0, 0, 8), 1);
        due("8 what leans on it waits", y.start(0), 0);
        y.undo();
        due("13 a LEECH no more", y.memory(0, 0, 0, 8), 0);
    }

    /** Eight AGAINS for side 0 of card 0, the eighth as the first one of its day. */
    private static void leech(LessonCards x) {
        for (int i = 0; i < 7; i++) {
            if (i == 3 || i == 6) {
                x.day(0, 1);
            }
            if (i % 3 == 0) {
                x.start(0);
            }
            x.answer(0, AGAIN);
        }
        x.day(0, 1);
        x.start(0);
        x.answer(0, AGAIN);
    }

    /** "by AGAIN it comes to its end again (at most twice more for a side in a day ..)". */
    private static void againTwiceMore() {
        LessonCards x = Made.likeCards(1);
        x.start(0);
        due("10 once more", x.answer(0, AGAIN), 1);
        due("9 it", x.next(0), 0);
        due("10 twice more", x.answer(0, AGAIN), 1);
        due("9 it", x.next(0), 0);
        due("10 not a third time", x.answer(0, AGAIN), 0);
        due("9 EMPTY", x.next(0), EMPTY);
        due("10 EMPTY", x.answer(0, AGAIN), EMPTY);
        due("14 three AGAINS", x.memory(0, 0, 0, 4), 3);
        due("8 not DUE on its day", x.start(0), 0);
        x.day(0, 1);
        due("8 the next day", x.start(0), 1);
        due("10 once more", x.answer(0, AGAIN), 1);
        due("10 HARD goes", x.answer(0, HARD), 0);
        x.day(0, 1);
        x.start(0);
        due("10 once more on another day", x.answer(0, AGAIN), 1);
        due("10 twice more", x.answer(0, AGAIN), 1);
        due("10 GOOD goes", x.answer(0, GOOD), 0);
        due("14 six AGAINS", x.memory(0, 0, 0, 4), 6);
    }

    /** "for a side": other sides, cards and pupils have their own twice. */
    private static void againTwiceMoreForEachSide() {
        LessonCards x = Made.cards(2, 1);
        x.start(0);
        due("10 card 0 once", x.answer(0, AGAIN), 2);
        due("10 card 1 once", x.answer(0, AGAIN), 2);
        due("10 card 0 twice", x.answer(0, AGAIN), 2);
        due("10 card 1 twice", x.answer(0, AGAIN), 2);
        due("10 card 0 no more", x.answer(0, AGAIN), 1);
        due("10 card 1 no more", x.answer(0, AGAIN), 0);
        due("8 the other side", x.start(0), 1);
        due("9 it", x.next(0), 1);
        due("10 side 1 once", x.answer(0, AGAIN), 1);
        due("10 side 1 twice", x.answer(0, AGAIN), 1);
        due("10 side 1 no more", x.answer(0, AGAIN), 0);
        x.start(1);
        due("10 another pupil once", x.answer(1, AGAIN), 2);
        x.day(0, 1);
        x.skip(1);
        due("10 twice, whatever day another has", x.answer(1, AGAIN), 2);
        x.skip(1);
        due("10 and no more", x.answer(1, AGAIN), 1);
    }

    /** "not one that is a LEECH then": the seventh AGAIN comes back, the eighth does not. */
    private static void againOfALeech() {
        LessonCards x = Made.likeCards(1);
        for (int day = 0; day < 2; day++) {
            x.start(0);
            for (int i = 0; i < 3; i++) {
                x.answer(0, AGAIN);
            }
            x.day(0, 1);
        }
        x.start(0);
        due("14 six AGAINS", x.memory(0, 0, 0, 4), 6);
        due("10 the seventh comes back", x.answer(0, AGAIN), 1);
        due("14 no LEECH", x.memory(0, 0, 0, 8), 0);
        due("10 the eighth does not", x.answer(0, AGAIN), 0);
        due("14 a LEECH", x.memory(0, 0, 0, 8), 1);
        due("8 it is not asked", x.start(0), 0);
        LessonCards y = Made.likeCards(1);
        leech(y);
        due("14 eight AGAINS", y.memory(0, 0, 0, 4), 8);
        due("10 not even the first time in a day", y.next(0), EMPTY);
        y.day(0, 1000);
        due("8 nor is it asked later", y.start(0), 0);
    }

    /** "it comes to its end again". */
    private static void againGoesBehindAll() {
        LessonCards x = Made.likeCards(3);
        x.start(0);
        due("10 back", x.answer(0, AGAIN), 3);
        row("10 behind all", x, 0, 4, 8, 0);
        x.skip(0);
        x.skip(0);
        due("10 back", x.answer(0, AGAIN), 3);
        row("10 behind all", x, 0, 4, 8, 0);
        due("10 the others go", x.answer(0, HARD) + x.answer(0, EASY), 2 + 1);
        due("10 the last one goes", x.answer(0, AGAIN), 0);
    }

    /** "int answer(int pupil, int answer) .. NONE; EMPTY": 0 .. 3, and beside. */
    private static void answerOfNone() {
        for (int answer = -1; answer <= 4; answer++) {
            LessonCards x = Made.likeCards(1);
            boolean is = answer >= 0 && answer <= 3;
            due("10 EMPTY, or NONE ahead of it", x.answer(0, answer), is ? EMPTY : NONE);
            x.start(0);
            due("10 answer " + answer, x.answer(0, answer), is ? answer == AGAIN ? 1 : 0 : NONE);
            due("27 log", x.log(), is ? 1 : 0);
            due("28 logged", x.logged(0, 4), is ? answer : NONE);
            due("14 DAY", x.memory(0, 0, 0, 3), is ? 0 : -1);
            due("14 AGAINS", x.memory(0, 0, 0, 4), answer == AGAIN ? 1 : 0);
            due("16 THE ROW", x.pupil(0, 4), is && answer != AGAIN ? 0 : 1);
        }
        LessonCards x = Made.likeCards(1);
        x.start(3);
        due("10 pupil 4", x.answer(4, GOOD), NONE);
        due("10 pupil -1", x.answer(-1, GOOD), NONE);
        due("10 EMPTY", x.answer(2, GOOD), EMPTY);
        due("10 pupil 3", x.answer(3, GOOD), 0);
        due("10 EMPTY", x.answer(3, GOOD), EMPTY);
        due("27 log", x.log(), 1);
    }

    /** "4 times the card, and the side. NONE; EMPTY": up to the last card's last side. */
    private static void nextOfNone() {
        LessonCards x = Made.likeCards(119);
        due("2 the last card", x.card(4), 119);
        for (int card = 0; card < 118; card++) {
            x.bury(0, card, 0);
        }
        due("9 EMPTY", x.next(0), EMPTY);
        due("8 two", x.start(0), 2);
        due("9 the last but one", x.next(0), 4 * 118);
        x.answer(0, GOOD);
        due("9 the last one's first side", x.next(0), 4 * 119);
        x.bury(0, 119, 0);
        due("9 EMPTY", x.next(0), EMPTY);
        x.bury(0, 119, 1);
        x.bury(0, 119, 2);
        due("8 its last side", x.start(0), 1);
        due("9 its last side", x.next(0), 479);
        due("9 pupil 3: EMPTY", x.next(3), EMPTY);
        due("9 pupil 4", x.next(4), NONE);
        due("9 pupil -1", x.next(-1), NONE);
        due("10 it is answered", x.answer(0, AGAIN), 1);
        due("28 card", x.logged(1, 1), 119);
        due("28 side", x.logged(1, 2), 3);
    }

    /** "NEXT goes to the end of THE ROW": of none, of one, of two. */
    private static void skipOfOneAndTwo() {
        LessonCards x = Made.likeCards(2);
        due("11 EMPTY", x.skip(0), EMPTY);
        due("11 pupil -1", x.skip(-1), NONE);
        due("11 pupil 4", x.skip(4), NONE);
        x.start(0);
        due("11 of two", x.skip(0), 2);
        row("11 turned", x, 0, 4, 0);
        due("11 pupil 3: EMPTY", x.skip(3), EMPTY);
        x.answer(0, GOOD);
        due("11 of one", x.skip(0), 1);
        due("9 the same", x.next(0), 0);
        due("11 a skip is no AGAIN", x.memory(0, 0, 0, 4), 0);
        x.answer(0, GOOD);
        due("11 EMPTY", x.skip(0), EMPTY);
        due("27 log", x.log(), 2);
    }

    /** "if it is in THE ROW it goes from there": the first, the last, the only one, none. "NONE: also if it is BURIED already." */
    private static void buryAtTheEnds() {
        LessonCards x = Made.cards(2, 1, 1, 1);
        x.start(0);
        due("12 not in THE ROW", x.bury(0, 0, 1), 4);
        due("12 BURIED already", x.bury(0, 0, 1), NONE);
        due("12 the last", x.bury(0, 3, 0), 3);
        row("12 the others stay in their order", x, 0, 0, 4, 8);
        due("12 the first", x.bury(0, 0, 0), 2);
        row("12 the others", x, 0, 4, 8);
        due("12 BURIED already", x.bury(0, 0, 0), NONE);
        row("12 refused", x, 0, 4, 8);
        due("12 no card 4", x.bury(0, 4, 0), NONE);
        due("12 no side 2, though card 0 would be 4 ahead", x.bury(0, 0, 4), NONE);
        due("12 no card -1, though side 4 would be there", x.bury(0, -1, 8), NONE);
        row("12 refused", x, 0, 4, 8);
        due("12 pupil -1", x.bury(-1, 1, 0), NONE);
        due("12 pupil 4", x.bury(4, 1, 0), NONE);
        due("12 by another pupil, none in THE ROW", x.bury(3, 1, 0), 0);
        due("12 one more", x.bury(0, 1, 0), 1);
        due("12 the only one", x.bury(0, 2, 0), 0);
        due("9 EMPTY", x.next(0), EMPTY);
        due("8 all are BURIED", x.start(0), 0);
        due("8 not by another", x.start(3), 3);
    }

    /** "BURIED: a side that is to be left out today, till TODAY becomes another day." */
    private static void buryTillAnotherDay() {
        LessonCards x = Made.likeCards(1);
        due("12 bury", x.bury(0, 0, 0), 0);
        due("14 BURIED", x.memory(0, 0, 0, 9), 1);
        due("8 not asked", x.start(0), 0);
        due("7 refused: TODAY stays", x.day(0, 0), NONE);
        x.day(1, 1);
        due("14 BURIED yet", x.memory(0, 0, 0, 9), 1);
        due("12 BURIED already", x.bury(0, 0, 0), NONE);
        due("14 not by another", x.memory(1, 0, 0, 9), 0);
        x.day(0, 1);
        due("14 not BURIED", x.memory(0, 0, 0, 9), 0);
        due("8 asked", x.start(0), 1);
        due("12 bury anew", x.bury(0, 0, 0), 0);
    }

    /** "The latest answer of all in THE LOG is taken back .. how many are in THE LOG. EMPTY: none is." */
    private static void undoToTheFirst() {
        LessonCards x = Made.likeCards(2);
        due("13 EMPTY", x.undo(), EMPTY);
        due("27 log", x.log(), 0);
        x.start(0);
        x.start(3);
        x.answer(0, AGAIN);
        x.answer(3, EASY);
        due("13 the second", x.undo(), 1);
        due("14 it is taken back", x.memory(3, 0, 0, 0), 0);
        due("14 the first one is not", x.memory(0, 0, 0, 4), 1);
        due("16 the other's ROW stays", x.pupil(0, 4), 2);
        due("13 the first", x.undo(), 0);
        due("14 it is taken back", x.memory(0, 0, 0, 4), 0);
        due("14 NEW", x.memory(0, 0, 0, 3), -1);
        due("16 NEW", x.pupil(0, 2), 2);
        due("13 EMPTY", x.undo(), EMPTY);
        due("13 EMPTY", x.undo(), EMPTY);
        x.start(0);
        x.undo();
        due("13 what is refused leaves THE ROW", x.pupil(0, 4), 2);
        due("10 answered anew", x.answer(0, GOOD), 1);
        due("13 the only one", x.undo(), 0);
    }

    /** "THE ROW of its pupil is empty then": not another's. */
    private static void undoEmptiesTheRow() {
        LessonCards x = Made.likeCards(3);
        x.start(0);
        x.start(1);
        x.answer(1, GOOD);
        x.answer(0, GOOD);
        due("13 of pupil 0", x.undo(), 1);
        due("9 EMPTY", x.next(0), EMPTY);
        due("9 pupil 1's stays", x.next(1), 4);
        due("8 made anew", x.start(0), 3);
        due("13 of pupil 1", x.undo(), 0);
        due("9 pupil 0's stays", x.next(0), 0);
        due("9 EMPTY", x.next(1), EMPTY);
    }

    /** "undo() leaves how often a side came back today." */
    private static void undoLeavesHowOften() {
        LessonCards x = Made.likeCards(1);
        for (int i = 0; i < 3; i++) {
            x.start(0);
            due("10 back, but not a third time", x.answer(0, AGAIN), i < 2 ? 1 : 0);
            due("13 undo", x.undo(), 0);
            due("14 no AGAINS", x.memory(0, 0, 0, 4), 0);
        }
        x.day(0, 1);
        x.start(0);
        due("10 on another day", x.answer(0, AGAIN), 1);
        due("10 on another day", x.answer(0, AGAIN), 1);
        due("10 not a third time", x.answer(0, AGAIN), 0);
    }

    /** "the memory is as it was": whatever the pupil's day, the rule and the table are by then. */
    private static void undoOnALaterDay() {
        LessonCards x = Made.likeCards(1);
        x.rule(1);
        x.start(0);
        x.answer(0, GOOD);
        x.day(0, 3);
        x.start(0);
        x.answer(0, EASY);
        x.day(0, 1000);
        x.rule(2);
        x.table(EASY, 1);
        x.bury(0, 0, 0);
        due("13 undo", x.undo(), 1);
        int[] was = {2500, 2500, 0, 0, 0, 0, 1, 0, 0, 1};
        for (int what = 0; what < was.length; what++) {
            due("13 as it was: " + what, x.memory(0, 0, 0, what), was[what]);
        }
        due("13 TODAY stays", x.pupil(0, 5), 1003);
        due("13 the RULE stays", x.rule(0), 2);
        due("32 check", x.check(0), 1);
    }

    /**
     * "THE LOG: all answers .. at most 3000", "FULL: THE LOG has 3000". Within 512 calls it can't fill: this takes
     * more calls than the document promises anything of, so that the sentence is tested at all.
     */
    private static void theLogIsFull() {
        LessonCards x = Made.likeCards(100);
        x.most(400, 100);
        for (int day = 0; day < 30; day++) {
            x.start(0);
            for (int i = 0; i < (day < 29 ? 100 : 98); i++) {
                x.answer(0, HARD);
            }
            if (day < 29) {
                x.day(0, 1);
            }
        }
        due("27 two short of it", x.log(), 2998);
        due("10 one short of it", x.answer(0, HARD), 1);
        due("10 the last", x.answer(0, AGAIN), 1);
        due("27 all", x.log(), 3000);
        due("10 FULL", x.answer(0, HARD), FULL);
        due("27 all", x.log(), 3000);
        due("9 NEXT stays", x.next(0), 4 * 99);
        due("14 AGAINS stay", x.memory(0, 99, 0, 4), 1);
        due("28 the last", x.logged(2999, 4), AGAIN);
        due("28 none behind it", x.logged(3000, 4), NONE);
        due("32 check", x.check(0), 1);
        due("13 undo", x.undo(), 2999);
        x.start(0);
        due("10 room for one", x.answer(0, HARD), 0);
        due("10 EMPTY ahead of FULL", x.answer(0, HARD), EMPTY);
        due("10 NONE ahead of both", x.answer(0, 4), NONE);
    }
}
