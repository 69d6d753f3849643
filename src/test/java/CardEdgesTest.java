/** What the document says of cards, leaning, rules and numbers (part 1, promises 1 to 6), at its boundaries. */
public final class CardEdgesTest {
    private static final int NONE = Made.NONE, FULL = Made.FULL, RING = Made.RING, EMPTY = Made.EMPTY;
    private static final int AGAIN = Made.AGAIN, HARD = Made.HARD, GOOD = Made.GOOD, EASY = Made.EASY;
    private static final int[] FAR_OFF = {Integer.MIN_VALUE, -1000, 1000, Integer.MAX_VALUE};

    public static void main(String[] args) {
        noCardsAtFirst();
        fourPupils();
        cardsUpTo119();
        sidesOneToFour();
        fewestAndMostSides();
        fourLeans();
        noRing();
        noLongRing();
        leansOfTheLastCard();
        ringOverManyWays();
        refusedLeanIsNotThere();
        ruleZeroToTwo();
        oneRuleForAll();
        tableNumbers();
        tableIsUsedAtItsEnds();
        mostDueAndNew();
        mostDueAtFirst();
        mostNewAtFirst();
        Dues.end("CardEdgesTest");
    }

    private static void due(String call, long got, long want) {
        Dues.due(call, got, want);
    }

    /** "No cards; four pupils with nothing learnt." */
    private static void noCardsAtFirst() {
        LessonCards x = new LessonCards();
        due("1 no card 0", x.memory(0, 0, 0, 0), -2);
        due("1 no card 0", x.known(0, 0), NONE);
        due("1 no card 0", x.mean(0, 0), NONE);
        due("1 no card 0", x.bury(0, 0, 0), NONE);
        due("1 no card 0", x.other(0, 0, 0, 0), NONE);
        due("1 nothing to lean", x.lean(0, 1), NONE);
        due("1 nothing NEW", x.pupil(0, 2), 0);
        due("1 nothing to ask", x.start(0), 0);
        due("1 nothing to ask, so not OPEN", x.start(0), 0);
        due("2 the first card", x.card(1), 0);
        due("1 now there is one", x.memory(0, 0, 0, 0), 0);
        due("1 not a second one", x.memory(0, 1, 0, 0), -2);
    }

    /** "PUPILS 0 .. 3 have a MEMORY of each side", "TODAY of a pupil is a day, 0 at first". */
    private static void fourPupils() {
        LessonCards x = Made.likeCards(1);
        int[] first = {0, 2500, 0, -1, 0, 0, 0, 0, 0, 0};
        for (int pupil = 0; pupil <= 3; pupil++) {
            for (int what = 0; what < first.length; what++) {
                due("1 at first, pupil " + pupil + ", " + what, x.memory(pupil, 0, 0, what), first[what]);
            }
            due("1 TODAY", x.pupil(pupil, 5), 0);
        }
        due("1 no pupil -1", x.pupil(-1, 5), NONE);
        due("1 no pupil 4", x.pupil(4, 5), NONE);
        due("7 the last pupil's day", x.day(3, 1), 1);
        due("8 the last pupil starts", x.start(3), 1);
        due("10 the last pupil answers", x.answer(3, GOOD), 0);
        due("1 the others have learnt nothing", x.memory(0, 0, 0, 0) + x.memory(2, 0, 0, 0), 0);
        due("1 it has", x.memory(3, 0, 0, 0), 2000);
    }

    /** "CARDS 0 .. 119, as they were made": card() is FULL behind them. */
    private static void cardsUpTo119() {
        LessonCards x = Made.likeCards(119);
        due("2 no card 119 yet", x.memory(0, 119, 0, 0), -2);
        due("3 no card 119 yet", x.lean(119, 0), NONE);
        due("2 the last card but for one is there", x.known(0, 118), 0);
        due("2 the last card", x.card(2), 119);
        due("2 FULL", x.card(1), FULL);
        due("2 FULL", x.card(4), FULL);
        due("2 NONE ahead of FULL", x.card(5), NONE);
        due("2 NONE ahead of FULL", x.card(0), NONE);
        due("2 the last card's last side", x.memory(3, 119, 1, 1), 2500);
        due("2 it has no more sides", x.memory(3, 119, 2, 1), -2);
        due("2 no card 120", x.memory(0, 120, 0, 0), -2);
        due("17 no card 120", x.known(0, 120), NONE);
        due("17 card 119", x.known(0, 119), 0);
        due("18 no card 120", x.mean(120, 0), NONE);
        due("18 card 119", x.mean(119, 0), 0);
        due("31 no card 120", x.other(0, 0, 120, 0), NONE);
        due("31 card 119", x.other(0, 0, 119, 1), 0);
        due("12 no card 120", x.bury(0, 120, 0), NONE);
        due("12 card 119", x.bury(0, 119, 0), 0);
        due("16 all sides", x.pupil(1, 2), 121);
        due("16 no more KNOWN ones", x.pupil(1, 0), 0);
        x.even(0, 0);
        due("22 no card 120", x.put(120, 0), NONE);
    }

    /** "SIDES 0 .. n - 1 (n 1 .. 4)": what is refused makes no card. */
    private static void sidesOneToFour() {
        LessonCards x = new LessonCards();
        for (int n : new int[] {0, 5, -1, 6}) {
            due("2 card(" + n + ")", x.card(n), NONE);
        }
        for (int n : FAR_OFF) {
            due("2 card(" + n + ")", x.card(n), NONE);
        }
        due("2 none was made", x.memory(0, 0, 0, 0), -2);
        due("2 none was made", x.pupil(0, 2), 0);
        due("2 one side", x.card(1), 0);
        due("2 refused", x.card(0), NONE);
        due("2 four sides", x.card(4), 1);
        due("2 refused", x.card(5), NONE);
        due("2 the next number", x.card(2), 2);
        due("2 all their sides", x.pupil(0, 2), 7);
    }

    /** "SIDES 0 .. n - 1": the last side, and the one behind it, for each n. */
    private static void fewestAndMostSides() {
        for (int n = 1; n <= 4; n++) {
            LessonCards x = Made.cards(n, 4);
            String what = n + " sides: ";
            due(what + "14 ahead of the first", x.memory(0, 0, -1, 0), -2);
            due(what + "14 the first", x.memory(0, 0, 0, 0), 0);
            due(what + "14 the last", x.memory(0, 0, n - 1, 0), 0);
            due(what + "14 behind the last", x.memory(0, 0, n, 0), -2);
            due(what + "18 ahead of the first", x.mean(0, -1), NONE);
            due(what + "18 the last", x.mean(0, n - 1), 0);
            due(what + "18 behind the last", x.mean(0, n), NONE);
            due(what + "31 ahead of the first", x.other(0, 1, 0, -1), NONE);
            due(what + "31 the last", x.other(0, 1, 0, n - 1), 0);
            due(what + "31 behind the last", x.other(0, 1, 0, n), NONE);
            due(what + "12 ahead of the first", x.bury(0, 0, -1), NONE);
            due(what + "12 behind the last", x.bury(0, 0, n), NONE);
            due(what + "12 nothing of the next card is BURIED", x.memory(0, 1, 0, 9), 0);
            due(what + "12 the last", x.bury(0, 0, n - 1), 0);
            due(what + "16 sides", x.pupil(0, 2), n + 4);
        }
    }

    /** "LEAN on other cards (at most 4 ..)": FULL is the fifth. */
    private static void fourLeans() {
        LessonCards x = Made.likeCards(8);
        due("3 the first", x.lean(0, 1), 1);
        due("3 the second", x.lean(0, 2), 2);
        due("3 the third", x.lean(0, 3), 3);
        due("3 the fourth", x.lean(0, 4), 4);
        due("3 the fifth", x.lean(0, 5), FULL);
        due("3 it is FULL yet", x.lean(0, 6), FULL);
        due("3 NONE ahead of FULL: it does already", x.lean(0, 4), NONE);
        due("3 NONE ahead of FULL: no card", x.lean(0, 8), NONE);
        due("3 NONE ahead of FULL: itself", x.lean(0, 0), NONE);
        due("3 more than four may lean on one", x.lean(5, 4), 1);
        due("3 more than four may lean on one", x.lean(6, 4), 1);
        due("3 more than four may lean on one", x.lean(7, 4), 1);
        due("3 what is FULL may be leant on", x.lean(7, 0), 2);
        due("3 RING ahead of FULL", x.lean(0, 7), RING);
        x.bury(0, 5, 0);
        x.bury(0, 6, 0);
        x.bury(0, 7, 0);
        due("8 the four it leans on", x.start(0), 4);
        for (int i = 0; i < 3; i++) {
            x.answer(0, EASY);
        }
        x.skip(0);
        due("8 the fourth is not KNOWN yet", x.next(0), 16);
        x.bury(0, 4, 0);
        due("8 so it waits", x.start(0), 0);
        x.day(0, 1);
        x.bury(0, 5, 0);
        x.bury(0, 6, 0);
        due("8 the fourth alone", x.start(0), 1);
        x.answer(0, EASY);
        due("8 all four are KNOWN; the refused ones do not count", x.start(0), 1);
        due("9 card 0", x.next(0), 0);
    }

    /** "Card a LEANS on b .. NONE (also if it does already, or a is b). RING.": rings of 1, 2 and 3 cards. */
    private static void noRing() {
        LessonCards x = Made.likeCards(5);
        due("3 a is b", x.lean(0, 0), NONE);
        due("3 a is b", x.lean(4, 4), NONE);
        due("3 no card", x.lean(0, -1), NONE);
        due("3 no card", x.lean(-1, 0), NONE);
        due("3 no card", x.lean(0, 5), NONE);
        due("3 no card", x.lean(5, 0), NONE);
        due("3 no card, twice", x.lean(5, 5), NONE);
        due("3 one", x.lean(0, 1), 1);
        due("3 it does already", x.lean(0, 1), NONE);
        due("3 a ring of two", x.lean(1, 0), RING);
        due("3 two", x.lean(1, 2), 1);
        due("3 a ring of three", x.lean(2, 0), RING);
        due("3 a ring of two", x.lean(2, 1), RING);
        due("3 beside it: a second way is no ring", x.lean(0, 2), 2);
        due("3 it does already", x.lean(0, 2), NONE);
        due("3 beside it: to a card apart", x.lean(2, 3), 1);
        due("3 a ring of four", x.lean(3, 0), RING);
        due("3 a ring by its end", x.lean(3, 2), RING);
        due("3 from a card apart", x.lean(4, 0), 1);
        due("3 from its end to a card apart is one by now", x.lean(3, 4), RING);
        due("3 down the chain it is none", x.lean(4, 3), 2);
    }

    /** The longest ring has all 120 cards, and the last step over many ways is found. */
    private static void noLongRing() {
        LessonCards x = Made.likeCards(120);
        for (int i = 0; i < 118; i++) {
            due("3 chain", x.lean(i, i + 1), 1);
        }
        due("3 a ring of 119", x.lean(118, 0), RING);
        due("3 a ring of 118", x.lean(118, 1), RING);
        due("3 beside it: none yet", x.lean(119, 0), 1);
        due("3 a ring of 120", x.lean(118, 119), RING);
        due("3 its shortest", x.lean(118, 117), RING);
        due("3 beside it: none", x.lean(119, 118), 2);
        due("3 beside it: none", x.lean(0, 118), 2);
    }

    /** Leans 1 to 4 of a card are each gone along in search of a ring. */
    private static void leansOfTheLastCard() {
        for (int by = 0; by < 4; by++) {
            LessonCards x = Made.likeCards(6);
            for (int i = 0; i < 4; i++) {
                x.lean(0, 1 + i);
            }
            due("3 lean " + by + " goes on", x.lean(1 + by, 5), 1);
            due("3 a ring by lean " + by, x.lean(5, 0), RING);
            due("3 and from there", x.lean(5, 1 + by), RING);
            due("3 beside it: none", x.lean(5, 1 + (by + 1) % 4), 1);
        }
    }

    /** Layers of four cards, each leaning on all four of the next: a ring is found over however many ways. */
    private static void ringOverManyWays() {
        int layers = 20;
        LessonCards x = Made.likeCards(4 * layers + 1);
        for (int card = 0; card < 4 * layers - 4; card++) {
            for (int i = 0; i < 4; i++) {
                due("3 lean", x.lean(card, card / 4 * 4 + 4 + i), 1 + i);
            }
        }
        for (int card = 0; card < 4 * layers - 4; card++) {
            due("3 a ring from the last layer to card " + card, x.lean(4 * layers - 1, card), RING);
        }
        due("3 beside it: the last layer's own", x.lean(4 * layers - 1, 4 * layers - 2), 1);
        due("3 which is a ring then", x.lean(4 * layers - 2, 4 * layers - 1), RING);
        due("3 beside it: a card apart", x.lean(4 * layers - 1, 4 * layers), 2);
        due("3 which is a ring over all then", x.lean(4 * layers, 0), RING);
    }

    /** "What is refused changes nothing": neither NONE nor RING leaves a lean. */
    private static void refusedLeanIsNotThere() {
        LessonCards x = Made.likeCards(2);
        due("3 one", x.lean(1, 0), 1);
        due("3 refused", x.lean(0, 1), RING);
        due("3 refused", x.lean(0, 0), NONE);
        due("3 refused", x.lean(1, 0), NONE);
        due("8 card 0 leans on none", x.start(0), 1);
        x.answer(0, GOOD);
        due("8 card 1 on card 0 alone", x.start(0), 1);
        due("9 it", x.next(0), 4);
    }

    /** "A RULE (0 BOXES, 1 STRENGTHS, 2 TABLE)", "0 at first", "NONE." */
    private static void ruleZeroToTwo() {
        LessonCards x = Made.likeCards(1);
        due("4 rule(-1)", x.rule(-1), NONE);
        due("4 rule(3)", x.rule(3), NONE);
        due("4 the least; it was 0 at first", x.rule(0), 0);
        due("4 the greatest", x.rule(2), 0);
        due("4 rule(3)", x.rule(3), NONE);
        due("4 rule(-1)", x.rule(-1), NONE);
        for (int r : FAR_OFF) {
            due("4 rule(" + r + ")", x.rule(r), NONE);
        }
        x.start(0);
        x.answer(0, GOOD);
        due("4 by TABLE yet", x.memory(0, 0, 0, 0), 2500);
        due("4 it was 2", x.rule(1), 2);
        due("4 it was 1", x.rule(0), 1);
        due("4 memories stay as they are", x.memory(0, 0, 0, 0), 2500);
        due("4 and the BOX", x.memory(0, 0, 0, 2), 0);
    }

    /** "it is one for all pupils": from now on. */
    private static void oneRuleForAll() {
        LessonCards x = Made.likeCards(1);
        for (int pupil = 0; pupil <= 3; pupil++) {
            x.start(pupil);
        }
        x.answer(0, EASY);
        x.rule(1);
        x.answer(1, EASY);
        x.answer(3, EASY);
        x.rule(0);
        x.answer(2, EASY);
        due("4 by BOXES", x.memory(0, 0, 0, 0), 4000);
        due("4 by STRENGTHS", x.memory(1, 0, 0, 0), 6000);
        due("4 by BOXES", x.memory(2, 0, 0, 0), 4000);
        due("4 by STRENGTHS", x.memory(3, 0, 0, 0), 6000);
    }

    /** "The number that TABLE tells for an answer becomes v (1 .. 100000)", "Told at first: 200, 1000, 2000, 3000". */
    private static void tableNumbers() {
        LessonCards x = new LessonCards();
        int[] first = {200, 1000, 2000, 3000};
        due("5 answer -1", x.table(-1, 1), NONE);
        due("5 answer 4", x.table(4, 1), NONE);
        for (int answer = AGAIN; answer <= EASY; answer++) {
            due("5 number 0", x.table(answer, 0), NONE);
            due("5 number 100001", x.table(answer, 100001), NONE);
            due("5 number -1", x.table(answer, -1), NONE);
            due("5 told at first", x.table(answer, 1), first[answer]);
            due("5 number 0", x.table(answer, 0), NONE);
            due("5 the least", x.table(answer, 100000), 1);
            due("5 number 100001", x.table(answer, 100001), NONE);
            due("5 the greatest", x.table(answer, 99999), 100000);
            due("5 and one less", x.table(answer, 2), 99999);
        }
        for (int far : FAR_OFF) {
            due("5 no answer", x.table(far, 1), NONE);
        }
        due("5 far too great", x.table(0, Integer.MAX_VALUE), NONE);
        due("5 far too small", x.table(0, Integer.MIN_VALUE), NONE);
        for (int answer = AGAIN; answer <= EASY; answer++) {
            due("5 each as told last", x.table(answer, 5), 2);
        }
    }

    /** The least and the greatest number move a STRENGTH as they say. */
    private static void tableIsUsedAtItsEnds() {
        int[] numbers = {1, 100000, 99999};
        int[] strengths = {500, 100000, 99999};
        for (int i = 0; i < numbers.length; i++) {
            LessonCards x = Made.likeCards(1);
            Made.startAndAnswer(x, HARD);
            x.rule(2);
            x.table(GOOD, numbers[i]);
            due("5 refused", x.table(GOOD, 0), NONE);
            due("5 refused", x.table(GOOD, 100001), NONE);
            Made.again(x, 1, GOOD);
            due("5 1000 by " + numbers[i], x.memory(0, 0, 0, 0), strengths[i]);
        }
    }

    /** "MOST DUE (0 .. 400), MOST NEW (0 .. 100): 1. NONE." */
    private static void mostDueAndNew() {
        LessonCards x = Made.likeCards(120);
        due("6 -1 DUE", x.most(-1, 100), NONE);
        due("6 401 DUE", x.most(401, 100), NONE);
        due("6 -1 NEW", x.most(400, -1), NONE);
        due("6 101 NEW", x.most(400, 101), NONE);
        due("6 both", x.most(401, 101), NONE);
        due("6 far off", x.most(Integer.MAX_VALUE, 0), NONE);
        due("6 far off", x.most(0, Integer.MIN_VALUE), NONE);
        due("6 what is refused leaves 10 NEW ones", x.start(1), 10);
        due("6 the greatest", x.most(400, 100), 1);
        due("6 101 NEW", x.most(400, 101), NONE);
        due("6 100 NEW ones", Made.startAndAnswer(x, HARD), 100);
        due("6 one less", x.most(399, 99), 1);
        due("6 99 NEW ones", x.start(3), 99);
        due("6 no NEW ones", x.most(400, 0), 1);
        x.day(0, 1);
        due("6 all 100 DUE ones", x.start(0), 100);
        due("6 no NEW ones", x.start(2), 0);
        due("6 THE ROW stays as it was made", x.pupil(1, 4), 10);
        x.day(0, 1);
        x.most(99, 0);
        due("6 one DUE one less", x.start(0), 99);
        x.day(0, 1);
        x.most(100, 1);
        due("6 all 100 DUE ones, and a NEW one", x.start(0), 101);
        x.day(0, 1);
        x.most(101, 0);
        due("6 no more than there are", x.start(0), 100);
        x.day(0, 1);
        due("6 no DUE ones", x.most(0, 1), 1);
        due("6 -1 DUE", x.most(-1, 1), NONE);
        due("6 the one NEW one", x.start(0), 1);
        x.day(0, 1);
        x.most(1, 0);
        due("6 the one DUE one", x.start(0), 1);
        due("9 which is the first", x.next(0), 0);
    }

    /** "the first MOST DUE ones of them (60 at first)". */
    private static void mostDueAtFirst() {
        for (int cards = 59; cards <= 61; cards++) {
            LessonCards x = Made.likeCards(cards);
            for (int i = 0; i < 7; i++) {
                Made.startAndAnswer(x, HARD);
            }
            x.day(0, 1);
            due("16 all are DUE", x.pupil(0, 1), cards);
            due("8 60 at first, of " + cards, x.start(0), Math.min(cards, 60));
        }
    }

    /** "the first MOST NEW ones (10 at first)". */
    private static void mostNewAtFirst() {
        for (int cards = 9; cards <= 11; cards++) {
            LessonCards x = Made.likeCards(cards);
            due("8 10 at first, of " + cards, x.start(0), Math.min(cards, 10));
        }
        LessonCards x = Made.likeCards(11);
        due("8 the first ten", Made.startAndAnswer(x, GOOD), 10);
        due("8 of each start(): the eleventh", x.start(0), 1);
        due("9 it", x.next(0), 40);
        x.answer(0, GOOD);
        due("9 none is left", x.next(0), EMPTY);
    }
}
