/** Objects in states that tests begin from, and what the document says of CHANCE. */
final class Made {
    static final int NONE = -1, FULL = -2, RING = -3, EMPTY = -4, OPEN = -5;
    static final int AGAIN = 0, HARD = 1, GOOD = 2, EASY = 3;
    static final int BOXES = 0, STRENGTHS = 1, TABLE = 2;

    private Made() {
    }

    /** Cards with so many sides each. */
    static LessonCards cards(int... sides) {
        LessonCards x = new LessonCards();
        for (int one : sides) {
            x.card(one);
        }
        return x;
    }

    /** Cards with one side each. */
    static LessonCards likeCards(int count) {
        LessonCards x = new LessonCards();
        for (int i = 0; i < count; i++) {
            x.card(1);
        }
        return x;
    }

    /** Pupil 0 is given a day's questions, and answers all likewise; how many there were. */
    static int startAndAnswer(LessonCards x, int answer) {
        int size = x.start(0);
        for (int i = 0; i < size; i++) {
            x.answer(0, answer);
        }
        return size;
    }

    /** Any number of days later for pupil 0. */
    static void days(LessonCards x, int n) {
        for (int left = n; left > 0; left -= 1000) {
            x.day(0, Math.min(left, 1000));
        }
    }

    /** One card's only side is asked again so many days later, and answered; it has to be DUE then. */
    static void again(LessonCards x, int n, int answer) {
        days(x, n);
        Dues.due("asked once more, " + n + " days later", x.start(0), 1);
        x.answer(0, answer);
    }

    /** One card with one side, of a STRENGTH (500 .. 100000) that pupil 0 has come to on day 0 by an AGAIN and a GOOD. */
    static LessonCards strong(int strength) {
        LessonCards x = likeCards(1);
        x.start(0);
        x.answer(0, AGAIN);
        x.rule(TABLE);
        x.table(GOOD, strength);
        x.answer(0, GOOD);
        x.table(GOOD, 2000);
        x.rule(BOXES);
        Dues.due("made so strong", x.memory(0, 0, 0, 0), strength);
        return x;
    }

    /** Likewise by two AGAINS and a GOOD: a STRENGTH of 100 thousand times many thousands. */
    static LessonCards veryStrong(int hundreds, int times) {
        LessonCards x = likeCards(1);
        x.start(0);
        x.answer(0, AGAIN);
        x.rule(TABLE);
        x.table(AGAIN, hundreds);
        x.answer(0, AGAIN);
        x.table(GOOD, times);
        x.answer(0, GOOD);
        x.table(AGAIN, 200);
        x.table(GOOD, 2000);
        x.rule(BOXES);
        return x;
    }

    /** F as the document tells it. */
    static int chance(int q) {
        int f = 1000;
        for (int i = 0; i < q && f > 0; i++) {
            f = f * 9934 / 10000;
        }
        return f;
    }
}
