/** What the document says of PLAN and EVENED (part 3, promises 19 to 22), at its boundaries. */
public final class AheadEdgesTest {
    private static final int NONE = Made.NONE;
    private static final int AGAIN = Made.AGAIN, HARD = Made.HARD, GOOD = Made.GOOD, EASY = Made.EASY;
    private static final int[] FAR_OFF = {Integer.MIN_VALUE, -1000, 1000, Integer.MAX_VALUE};

    public static void main(String[] args) {
        planOfSixtyDays();
        planOfTheLastDay();
        planOfToday();
        planHasNoBoundOnDue();
        planHasNoNewOnes();
        planByTheRuleNow();
        planLeavesBuriedOutToday();
        planLeavesSiblingsOut();
        planBeyondTheLastDay();
        evenByZeroToTwenty();
        evenUpToSixtyDays();
        evenOfTodayAndBefore();
        evenPutsOffByW();
        evenPutsOffByTwenty();
        evenOfTwoFirstDays();
        evenIsTheLeast();
        evenOfAsManyAsCallsBear();
        evenOfBuriedAndSiblings();
        evenOfNothing();
        loadOfDays();
        putOfDays();
        theLatestEven();
        Dues.end("AheadEdgesTest");
    }

    private static void due(String call, long got, long want) {
        Dues.due(call, got, want);
    }

    /** So many cards that are all DUE first so many days on: each by AGAIN and GOOD, to a STRENGTH. */
    private static LessonCards allStrong(int cards, int strength) {
        LessonCards x = Made.likeCards(cards);
        x.most(400, 100);
        x.start(0);
        for (int i = 0; i < cards; i++) {
            x.answer(0, AGAIN);
        }
        x.rule(Made.TABLE);
        x.table(GOOD, strength);
        for (int i = 0; i < cards; i++) {
            x.answer(0, GOOD);
        }
        x.table(GOOD, 2000);
        x.rule(Made.BOXES);
        return x;
    }

    /** "how many would be asked on the n-th day (0 .. 59 ..). NONE." */
    private static void planOfSixtyDays() {
        LessonCards x = Made.strong(1000);
        x.day(0, 1);
        due("19 day -1", x.plan(0, -1), NONE);
        due("19 day 0", x.plan(0, 0), 1);
        due("19 day 58", x.plan(0, 58), 0);
        due("19 day 59, by BOXES 1 to 5 on days 0, 2, 6, 14 and 29", x.plan(0, 59), 1);
        due("19 day 60", x.plan(0, 60), NONE);
        due("19 day 61", x.plan(0, 61), NONE);
        due("19 pupil -1", x.plan(-1, 0), NONE);
        due("19 pupil 3", x.plan(3, 0), 0);
        due("19 pupil 4", x.plan(4, 0), NONE);
        for (int far : FAR_OFF) {
            due("19 far off", x.plan(far, 0), NONE);
            due("19 far off", x.plan(0, far), NONE);
        }
        due("8 it is asked all the same", x.start(0), 1);
    }

    /** A side DUE first in 59 days, and one in 60. */
    private static void planOfTheLastDay() {
        LessonCards x = Made.strong(62933);
        due("15 in 59 days", x.when(0, 0, 0), 59);
        due("19 day 58", x.plan(0, 58), 0);
        due("19 day 59", x.plan(0, 59), 1);
        LessonCards y = Made.strong(62934);
        due("15 in 60 days", y.when(0, 0, 0), 60);
        due("19 day 59", y.plan(0, 59), 0);
        y.day(0, 1);
        due("19 day 59, a day later", y.plan(0, 59), 1);
        due("19 day 58, a day later", y.plan(0, 58), 0);
    }

    /** "0 is TODAY itself": of a side DUE tomorrow, today, and since yesterday. */
    private static void planOfToday() {
        LessonCards x = Made.strong(2000);
        x.day(0, 1);
        due("19 tomorrow: today", x.plan(0, 0), 0);
        due("19 tomorrow", x.plan(0, 1), 1);
        x.day(0, 1);
        due("19 today", x.plan(0, 0), 1);
        due("19 then GOOD: not tomorrow", x.plan(0, 1), 0);
        x.day(0, 1);
        due("19 since yesterday: today", x.plan(0, 0), 1);
        due("19 then GOOD: BOX 1, not tomorrow", x.plan(0, 1), 0);
        due("19 but the day behind it", x.plan(0, 2), 1);
        due("19 then BOX 2", x.plan(0, 5) + x.plan(0, 7), 0);
        due("19 4 days behind", x.plan(0, 6), 1);
    }

    /** "no bound on DUE ones": all 120 of them, whatever MOST DUE is. */
    private static void planHasNoBoundOnDue() {
        LessonCards x = Made.likeCards(120);
        x.most(0, 100);
        Made.startAndAnswer(x, HARD);
        Made.startAndAnswer(x, HARD);
        due("8 none DUE comes by MOST DUE", x.start(0), 0);
        due("19 today", x.plan(0, 0), 0);
        due("19 all tomorrow", x.plan(0, 1), 120);
        due("19 then none", x.plan(0, 2), 0);
        due("19 then all", x.plan(0, 3), 120);
        due("20 all on one day", x.even(0, 0), 120);
        due("21 all on one day", x.load(1), 120);
        due("20 by 20", x.even(0, 20), 6);
    }

    /** "no NEW ones", and no LEECHES. */
    private static void planHasNoNewOnes() {
        LessonCards x = Made.likeCards(2);
        for (int n = 0; n < 60; n++) {
            due("19 nothing but NEW ones, day " + n, x.plan(0, n), 0);
        }
        x.start(0);
        x.answer(0, HARD);
        due("19 THE ROW is of no matter", x.plan(0, 0), 0);
        due("19 the one answered", x.plan(0, 1), 1);
    }

    /** "all in THE ROW were answered GOOD": by the RULE and the TABLE of now. */
    private static void planByTheRuleNow() {
        LessonCards x = Made.strong(1066);
        x.day(0, 1);
        x.rule(Made.TABLE);
        x.table(GOOD, 1001);
        due("19 1067 then: not tomorrow", x.plan(0, 1), 0);
        due("19 but on the day behind", x.plan(0, 2), 1);
        x.table(GOOD, 1000);
        due("19 1066 then: tomorrow", x.plan(0, 1), 1);
        x.table(GOOD, 1);
        for (int n = 0; n < 60; n++) {
            due("19 500 then: each day", x.plan(0, n), 1);
        }
        x.table(GOOD, 100000);
        due("19 106600 then: in 100 days", x.plan(0, 59), 0);
        due("14 nothing changes by it", x.memory(0, 0, 0, 0), 1066);
        x.rule(Made.BOXES);
        due("19 BOX 1 then", x.plan(0, 1), 0);
        due("19 BOX 1 then", x.plan(0, 2), 1);
        due("14 nothing changes by it", x.memory(0, 0, 0, 2), 0);
        due("27 nothing is logged", x.log(), 2);
    }

    /** "what is BURIED is left out on the 0-th day alone." */
    private static void planLeavesBuriedOutToday() {
        LessonCards x = Made.cards(2);
        x.start(0);
        x.answer(0, EASY);
        x.start(0);
        x.answer(0, HARD);
        x.day(0, 1);
        due("19 today", x.plan(0, 0), 1);
        due("19 not tomorrow", x.plan(0, 1), 0);
        x.bury(0, 0, 0);
        due("19 the side beside is BURIED", x.plan(0, 0), 1);
        x.bury(0, 0, 1);
        due("19 not today", x.plan(0, 0), 0);
        due("19 tomorrow instead", x.plan(0, 1), 1);
        due("19 and none the day behind", x.plan(0, 2), 0);
        due("12 BURIED yet", x.bury(0, 0, 1), NONE);
        x.day(0, 1);
        due("19 today by now", x.plan(0, 0), 1);
    }

    /** One side of a card a day, the least CHANCE first. */
    private static void planLeavesSiblingsOut() {
        LessonCards x = Made.cards(4);
        for (int i = 0; i < 4; i++) {
            Made.startAndAnswer(x, HARD);
        }
        int[] asked = {0, 1, 1, 1, 1, 1, 1, 1, 1};
        for (int n = 0; n < asked.length; n++) {
            due("19 day " + n, x.plan(0, n), asked[n]);
        }
        LessonCards y = Made.cards(2);
        y.start(0);
        y.answer(0, GOOD);
        y.start(0);
        y.answer(0, HARD);
        y.day(0, 2);
        y.table(GOOD, 100000);
        y.rule(Made.TABLE);
        due("19 the weaker side", y.plan(0, 0), 1);
        due("19 the other", y.plan(0, 1), 1);
        due("19 none", y.plan(0, 2), 0);
    }

    /** Days beyond 100000 are told of, too. */
    private static void planBeyondTheLastDay() {
        LessonCards x = Made.likeCards(1);
        Made.days(x, 100000);
        x.start(0);
        x.answer(0, HARD);
        due("19 on the last day", x.plan(0, 0), 0);
        due("19 the day behind it", x.plan(0, 1), 1);
        due("20 the day behind it", x.even(0, 0), 1);
        due("21 the day behind it", x.load(1), 1);
        due("22 the day behind it", x.put(0, 0), 1);
    }

    /** "each may be put off by at most w days (0 .. 20)", "NONE". */
    private static void evenByZeroToTwenty() {
        LessonCards x = allStrong(22, 2000);
        due("20 w -1", x.even(0, -1), NONE);
        due("20 w 21", x.even(0, 21), NONE);
        due("21 before any", x.load(2), NONE);
        due("22 before any", x.put(0, 0), NONE);
        due("20 w 0", x.even(0, 0), 22);
        due("20 w 21", x.even(0, 21), NONE);
        due("20 w -1", x.even(0, -1), NONE);
        due("21 as it was put", x.load(2), 22);
        due("20 w 20", x.even(0, 20), 2);
        due("20 w 22", x.even(0, 22), NONE);
        due("20 pupil -1", x.even(-1, 0), NONE);
        due("20 pupil 4", x.even(4, 0), NONE);
        for (int far : FAR_OFF) {
            due("20 far off", x.even(far, 0), NONE);
            due("20 far off", x.even(0, far), NONE);
        }
        due("21 as it was put", x.load(12), 2);
        due("22 as it was put", x.put(21, 0), 12);
        due("20 pupil 3", x.even(3, 0), 0);
        due("21 none", x.load(12), 0);
    }

    /** "the first day from TODAY on (up to TODAY and 60) on which it is DUE: those that have such a day". */
    private static void evenUpToSixtyDays() {
        int[] strengths = {62933, 62934, 64000, 64001, 65066, 65067};
        int[] days = {59, 60, 60, 61, 61, 62};
        for (int i = 0; i < strengths.length; i++) {
            LessonCards x = Made.strong(strengths[i]);
            boolean is = days[i] <= 60;
            due("15 when", x.when(0, 0, 0), days[i]);
            for (int w = 0; w <= 20; w += 20) {
                due("20 in " + days[i] + " days", x.even(0, w), is ? 1 : 0);
                due("22 on its day", x.put(0, 0), is ? days[i] : NONE);
                due("21 59", x.load(59), days[i] == 59 ? 1 : 0);
                due("21 60", x.load(60), days[i] == 60 ? 1 : 0);
                due("21 61", x.load(61), 0);
            }
            x.day(0, 1);
            due("20 a day later", x.even(0, 0), days[i] <= 61 ? 1 : 0);
            due("22 a day less", x.put(0, 0), days[i] <= 61 ? days[i] - 1 : NONE);
        }
    }

    /** A side DUE tomorrow, today, and since yesterday. */
    private static void evenOfTodayAndBefore() {
        LessonCards x = Made.strong(2000);
        x.day(0, 1);
        x.even(0, 20);
        due("22 tomorrow", x.put(0, 0), 1);
        due("21 today", x.load(0), 0);
        due("21 tomorrow", x.load(1), 1);
        x.day(0, 1);
        due("22 of the day that was TODAY then", x.put(0, 0), 1);
        x.even(0, 20);
        due("22 today", x.put(0, 0), 0);
        due("21 today", x.load(0), 1);
        due("21 tomorrow", x.load(1), 0);
        x.day(0, 1);
        x.even(0, 20);
        due("22 since yesterday: today", x.put(0, 0), 0);
        Made.days(x, 90000);
        x.even(0, 0);
        due("22 long since: today", x.put(0, 0), 0);
    }

    /** "none ahead of its first one nor more than w behind it": w and 1 sides of one day are one a day, one more are two. */
    private static void evenPutsOffByW() {
        for (int w = 0; w <= 6; w++) {
            for (int cards = Math.max(1, w); cards <= w + 2; cards++) {
                LessonCards x = allStrong(cards, 2000);
                int least = cards <= w + 1 ? 1 : 2;
                due("20 " + cards + " by " + w, x.even(0, w), least);
                due("21 none ahead of the first day", x.load(1), 0);
                due("21 on the first day", x.load(2), Math.min(least, cards));
                due("21 none behind the last", x.load(2 + w + 1), 0);
                due("22 the first", x.put(0, 0), 2);
                due("22 the last", x.put(cards - 1, 0), 2 + (cards - 1) / least);
            }
        }
    }

    /** By 20 days from the 60th on: the last day that there can be is the 80th. */
    private static void evenPutsOffByTwenty() {
        for (int cards = 20; cards <= 22; cards++) {
            LessonCards x = allStrong(cards, 64000);
            int least = cards <= 21 ? 1 : 2;
            due("20 " + cards + " by 20", x.even(0, 20), least);
            due("21 the 59th", x.load(59), 0);
            due("21 the 60th", x.load(60), least);
            due("21 the 70th", x.load(70), least);
            due("21 the 71st", x.load(71), cards == 22 ? 0 : 1);
            due("21 the 79th", x.load(79), cards == 22 ? 0 : 1);
            due("21 the 80th", x.load(80), cards == 21 ? 1 : 0);
            due("21 the 81st", x.load(81), NONE);
            due("22 the last", x.put(cards - 1, 0), cards == 22 ? 70 : 59 + cards);
            due("20 by 19", x.even(0, 19), cards == 20 ? 1 : 2);
            due("20 by 0", x.even(0, 0), cards);
            due("21 the 60th", x.load(60), cards);
        }
    }

    /** Two on one day and two on the next: they are in one another's way by one day of delay, not by two. */
    private static void evenOfTwoFirstDays() {
        LessonCards x = Made.likeCards(5);
        x.start(0);
        x.answer(0, GOOD);
        x.answer(0, HARD);
        x.answer(0, GOOD);
        x.answer(0, HARD);
        due("20 by 1", x.even(0, 1), 2);
        putOn("by 1", x, 2, 1, 2, 1);
        due("20 by 2", x.even(0, 2), 1);
        putOn("by 2", x, 3, 1, 4, 2);
        x.answer(0, GOOD);
        due("20 one more by 2", x.even(0, 2), 2);
        putOn("one more by 2", x, 2, 1, 2, 1, 3);
        due("20 one more by 3", x.even(0, 3), 1);
        putOn("one more by 3", x, 3, 1, 4, 2, 5);
    }

    private static void putOn(String what, LessonCards x, int... days) {
        int[] loads = new int[81];
        for (int card = 0; card < days.length; card++) {
            due("22 " + what + ", card " + card, x.put(card, 0), days[card]);
            loads[days[card]]++;
        }
        for (int n = 0; n < 9; n++) {
            due("21 " + what + ", day " + n, x.load(n), loads[n]);
        }
    }

    /** "the least number g": days g a day that would do, and g less one that would not. */
    private static void evenIsTheLeast() {
        for (int cards = 5; cards <= 7; cards++) {
            LessonCards x = allStrong(cards, 2000);
            due("20 by 1", x.even(0, 1), (cards + 1) / 2);
            due("21 at most g on the first", x.load(2), (cards + 1) / 2);
            due("21 the rest", x.load(3), cards / 2);
            due("20 by 2", x.even(0, 2), (cards + 2) / 3);
            due("20 by 5", x.even(0, 5), cards <= 6 ? 1 : 2);
        }
    }

    /** 400 sides are as many as can be answered in 512 calls, with calls left to even them out and to look. */
    private static void evenOfAsManyAsCallsBear() {
        LessonCards x = new LessonCards();
        for (int card = 0; card < 100; card++) {
            x.card(4);
        }
        x.most(0, 100);
        for (int side = 0; side < 4; side++) {
            x.start(0);
            for (int card = 0; card < 100; card++) {
                x.answer(0, HARD);
            }
        }
        due("20 21 days of 19 are 399", x.even(0, 20), 20);
        due("21 the first day", x.load(1), 20);
        due("21 the 20th day", x.load(20), 20);
        due("21 the 21st day", x.load(21), 0);
        due("22 the last side", x.put(99, 3), 20);
        due("22 the 200th side, by card, then by side", x.put(49, 3), 10);
        due("20 none put off", x.even(0, 0), 400);
    }

    /** "EVENED: what is BURIED, and each side of a card, too." */
    private static void evenOfBuriedAndSiblings() {
        LessonCards x = Made.cards(2, 1);
        Made.startAndAnswer(x, HARD);
        Made.startAndAnswer(x, HARD);
        due("20 all three", x.even(0, 0), 3);
        x.day(0, 1);
        x.bury(0, 0, 0);
        due("20 all three", x.even(0, 0), 3);
        due("22 BURIED, yet today", x.put(0, 0), 0);
        due("22 its sibling, too", x.put(0, 1), 0);
        due("20 by 1", x.even(0, 1), 2);
        due("22 by card, then by side", x.put(0, 0), 0);
        due("22 by card, then by side", x.put(0, 1), 0);
        due("22 by card, then by side", x.put(1, 0), 1);
        due("20 by 2", x.even(0, 2), 1);
        due("22 by card, then by side", x.put(0, 1), 1);
        due("22 by card, then by side", x.put(1, 0), 2);
    }

    /** "(0 if there is nothing to put)": no cards, NEW ones, one that is DUE too late. */
    private static void evenOfNothing() {
        LessonCards x = new LessonCards();
        due("20 no cards", x.even(0, 20), 0);
        for (int n = 0; n <= 80; n++) {
            due("21 no cards", x.load(n), 0);
        }
        due("22 no card", x.put(0, 0), NONE);
        x.card(1);
        due("22 made since", x.put(0, 0), NONE);
        due("20 a NEW one", x.even(0, 0), 0);
        due("22 on none", x.put(0, 0), NONE);
        LessonCards y = Made.strong(64001);
        due("20 in 61 days", y.even(0, 20), 0);
        due("22 on none", y.put(0, 0), NONE);
    }

    /** "on the n-th day (0 .. 80 from the day that was TODAY then). NONE: n, or before any." */
    private static void loadOfDays() {
        LessonCards x = Made.strong(1000);
        for (int n = -1; n <= 81; n++) {
            due("21 before any", x.load(n), NONE);
        }
        x.even(0, 0);
        due("21 day -1", x.load(-1), NONE);
        due("21 day 0", x.load(0), 0);
        due("21 day 1", x.load(1), 1);
        due("21 day 80", x.load(80), 0);
        due("21 day 81", x.load(81), NONE);
        due("21 day 82", x.load(82), NONE);
        for (int far : FAR_OFF) {
            due("21 far off", x.load(far), NONE);
        }
    }

    /** "NONE: on none, or before any." */
    private static void putOfDays() {
        LessonCards x = Made.cards(2, 1);
        Made.startAndAnswer(x, HARD);
        due("22 before any", x.put(0, 0), NONE);
        x.even(0, 0);
        due("22 on its day", x.put(0, 0), 1);
        due("22 NEW: on none", x.put(0, 1), NONE);
        due("22 the last card", x.put(1, 0), 1);
        due("22 side 2", x.put(0, 2), NONE);
        due("22 side -1", x.put(0, -1), NONE);
        due("22 side 4, which is not card 1's first", x.put(0, 4), NONE);
        due("22 side -4 of card 1, which is not card 0's first", x.put(1, -4), NONE);
        due("22 card 2", x.put(2, 0), NONE);
        due("22 card -1", x.put(-1, 0), NONE);
        due("22 card -1, side 4", x.put(-1, 4), NONE);
        for (int far : FAR_OFF) {
            due("22 far off", x.put(far, 0), NONE);
            due("22 far off", x.put(0, far), NONE);
        }
        due("22 a card 4 times which is 0 for the machine", x.put(1 << 30, 0), NONE);
    }

    /** "the latest even()": of whichever pupil; later answers, days and cards leave it. */
    private static void theLatestEven() {
        LessonCards x = Made.likeCards(2);
        Made.startAndAnswer(x, HARD);
        x.start(1);
        x.answer(1, GOOD);
        x.even(0, 0);
        due("22 by pupil 0", x.put(1, 0), 1);
        x.even(1, 0);
        due("22 by pupil 1", x.put(0, 0), 2);
        due("22 by pupil 1: on none", x.put(1, 0), NONE);
        due("20 refused", x.even(4, 0), NONE);
        due("20 refused", x.even(0, 21), NONE);
        x.undo();
        x.day(1, 1);
        x.card(1);
        due("22 as it was put", x.put(0, 0), 2);
        due("21 as it was put", x.load(2), 1);
        due("22 a card made since", x.put(2, 0), NONE);
        x.even(1, 0);
        due("22 taken back: on none", x.put(0, 0), NONE);
        due("21 taken back", x.load(2), 0);
    }
}
