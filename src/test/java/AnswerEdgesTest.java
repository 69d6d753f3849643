/** What an answer moves, and where it stops (part 1's "ANSWERS", for promise 10), at its boundaries. */
public final class AnswerEdgesTest {
    private static final int AGAIN = Made.AGAIN, HARD = Made.HARD, GOOD = Made.GOOD, EASY = Made.EASY;
    /** Any side is DUE so many days behind its answer. */
    private static final int LONG = 3750;

    public static void main(String[] args) {
        boxIsNineAtMost();
        boxIsZeroByAgain();
        newByEachRule();
        easeIsFirstEaseForNew();
        easeIs1300AtLeast();
        easeIs3500AtMost();
        easeOfOtherRules();
        fifthIs500AtLeast();
        tableIs500AtLeast();
        tableIs4000000AtMost();
        hardIs4000000AtMost();
        goodIs4000000AtMost();
        easyIs4000000AtMost();
        restsGoAway();
        easyLosesItsRestTwice();
        chanceOfThatDay();
        whatARuleDoesNotName();
        againsAndDay();
        Dues.end("AnswerEdgesTest");
    }

    private static void due(String call, long got, long want) {
        Dues.due(call, got, want);
    }

    private static void strength(String what, LessonCards x, int want) {
        due("10 " + what + ": STRENGTH", x.memory(0, 0, 0, 0), want);
    }

    private static void ease(String what, LessonCards x, int want) {
        due("10 " + what + ": EASE", x.memory(0, 0, 0, 1), want);
    }

    private static void box(String what, LessonCards x, int want, int strength) {
        due("10 " + what + ": BOX", x.memory(0, 0, 0, 2), want);
        strength(what, x, strength);
    }

    /** One card's only side, answered by BOXES so, each time a day on which it is DUE. */
    private static LessonCards boxed(int... answers) {
        LessonCards x = Made.likeCards(1);
        for (int answer : answers) {
            Made.again(x, 500, answer);
        }
        return x;
    }

    /** Likewise by STRENGTHS, behind a first answer that leaves the EASE at 2500. */
    private static LessonCards eased(int... answers) {
        LessonCards x = Made.likeCards(1);
        x.rule(Made.STRENGTHS);
        Made.again(x, 1, HARD);
        for (int answer : answers) {
            Made.again(x, LONG, answer);
        }
        return x;
    }

    private static void more(LessonCards x, int... answers) {
        for (int answer : answers) {
            Made.again(x, LONG, answer);
        }
    }

    /** "BOX becomes .. 1 more by GOOD, 2 more by EASY, at most 9; STRENGTH becomes 1000 times 2 to the BOX." */
    private static void boxIsNineAtMost() {
        LessonCards x = boxed(EASY, EASY, EASY, GOOD);
        box("7", x, 7, 128000);
        more(x, EASY);
        box("7 and 2", x, 9, 512000);
        x = boxed(EASY, EASY, EASY, GOOD, GOOD);
        box("7 and 1", x, 8, 256000);
        more(x, GOOD);
        box("8 and 1", x, 9, 512000);
        more(x, GOOD);
        box("9 and 1", x, 9, 512000);
        more(x, EASY);
        box("9 and 2", x, 9, 512000);
        more(x, HARD);
        box("9 by HARD", x, 9, 512000);
        x = boxed(EASY, EASY, EASY, EASY);
        box("8", x, 8, 256000);
        more(x, HARD);
        box("8 by HARD", x, 8, 256000);
        more(x, EASY);
        box("8 and 2", x, 9, 512000);
        more(x, AGAIN);
        box("9 by AGAIN", x, 0, 1000);
        more(x, GOOD);
        box("0 and 1", x, 1, 2000);
    }

    /** "BOX becomes 0 by AGAIN, as it is by HARD". */
    private static void boxIsZeroByAgain() {
        box("NEW by AGAIN", boxed(AGAIN), 0, 1000);
        box("NEW by HARD", boxed(HARD), 0, 1000);
        box("NEW by GOOD", boxed(GOOD), 1, 2000);
        box("NEW by EASY", boxed(EASY), 2, 4000);
        box("0 by AGAIN", boxed(HARD, AGAIN), 0, 1000);
        box("0 by HARD", boxed(AGAIN, HARD), 0, 1000);
        box("1 by AGAIN", boxed(GOOD, AGAIN), 0, 1000);
        box("1 by HARD", boxed(GOOD, HARD), 1, 2000);
        box("2 by HARD", boxed(EASY, HARD), 2, 4000);
    }

    /** "a NEW side: STRENGTH 500, 1000, 2500, 6000 by the four answers", "STRENGTH of a NEW side as by STRENGTHS". */
    private static void newByEachRule() {
        int[] first = {500, 1000, 2500, 6000};
        for (int rule = Made.STRENGTHS; rule <= Made.TABLE; rule++) {
            for (int answer = AGAIN; answer <= EASY; answer++) {
                LessonCards x = Made.likeCards(1);
                x.rule(rule);
                x.table(answer, 100000);
                Made.startAndAnswer(x, answer);
                strength("NEW by rule " + rule + ", answer " + answer, x, first[answer]);
                ease("NEW by rule " + rule + ", answer " + answer, x, 2500);
                due("10 NEW: BOX", x.memory(0, 0, 0, 2), 0);
                x.undo();
                strength("NEW again", x, 0);
                Made.startAndAnswer(x, answer);
                strength("NEW once more", x, first[answer]);
            }
        }
    }

    /** "STRENGTH that a rule does not name stay": a NEW side's EASE is not named. */
    private static void easeIsFirstEaseForNew() {
        for (int answer = AGAIN; answer <= EASY; answer++) {
            for (int rule = Made.BOXES; rule <= Made.TABLE; rule++) {
                LessonCards x = Made.likeCards(1);
                x.rule(rule);
                x.start(0);
                x.answer(0, answer);
                ease("NEW", x, 2500);
            }
        }
    }

    /** "EASE is 1300 at least": just on it, just beyond it, and just short of it. */
    private static void easeIs1300AtLeast() {
        LessonCards x = eased(AGAIN, AGAIN, AGAIN, AGAIN, AGAIN);
        ease("5 AGAINS", x, 1500);
        more(x, AGAIN);
        ease("1500 less 200", x, 1300);
        more(x, HARD);
        ease("1300 less 150", x, 1300);
        more(x, AGAIN);
        ease("1300 less 200", x, 1300);
        x = eased(HARD, HARD, HARD, HARD, HARD, HARD, HARD);
        ease("7 HARDS", x, 1450);
        more(x, HARD);
        ease("1450 less 150", x, 1300);
        more(x, GOOD);
        ease("1300 by GOOD", x, 1300);
        more(x, EASY);
        ease("1300 and 150", x, 1450);
        more(x, AGAIN);
        ease("1450 less 200", x, 1300);
        x = eased(AGAIN, AGAIN, AGAIN, HARD, HARD);
        ease("3 AGAINS, 2 HARDS", x, 1600);
        more(x, AGAIN);
        ease("1600 less 200", x, 1400);
        more(x, HARD);
        ease("1400 less 150", x, 1300);
        more(x, EASY, EASY);
        ease("1300 and 300", x, 1600);
        more(x, HARD);
        ease("1600 less 150", x, 1450);
    }

    /** "3500 at most". */
    private static void easeIs3500AtMost() {
        LessonCards x = eased(AGAIN, EASY, EASY, EASY, EASY, EASY, EASY);
        ease("2300 and 900", x, 3200);
        more(x, EASY);
        ease("3200 and 150", x, 3350);
        more(x, EASY);
        ease("3350 and 150", x, 3500);
        more(x, EASY);
        ease("3500 and 150", x, 3500);
        more(x, GOOD);
        ease("3500 by GOOD", x, 3500);
        more(x, AGAIN);
        ease("3500 less 200", x, 3300);
        x = eased(EASY, EASY, EASY, EASY, EASY, EASY);
        ease("6 EASIES", x, 3400);
        more(x, EASY);
        ease("3400 and 150", x, 3500);
        more(x, HARD);
        ease("3500 less 150", x, 3350);
    }

    /** "EASE, BOX, and STRENGTH that a rule does not name stay." */
    private static void easeOfOtherRules() {
        LessonCards x = eased(HARD);
        ease("2500 less 150", x, 2350);
        int[] rules = {Made.BOXES, Made.TABLE};
        for (int rule : rules) {
            x.rule(rule);
            more(x, AGAIN, HARD, GOOD, EASY);
            ease("as it was by rule " + rule, x, 2350);
        }
    }

    /** "by AGAIN a fifth of the STRENGTH", "500 at least". */
    private static void fifthIs500AtLeast() {
        int[] before = {500, 2495, 2499, 2500, 2504, 2505, 2510};
        int[] behind = {500, 500, 500, 500, 500, 501, 502};
        for (int i = 0; i < before.length; i++) {
            LessonCards x = Made.strong(before[i]);
            x.rule(Made.STRENGTHS);
            Made.again(x, 3, AGAIN);
            strength("a fifth of " + before[i], x, behind[i]);
            ease("200 less", x, 2300);
        }
    }

    /** "its STRENGTH times the number told for the answer, divided by 1000, 500 at least". */
    private static void tableIs500AtLeast() {
        int[] numbers = {1, 499, 500, 501};
        int[] behind = {500, 500, 500, 501};
        for (int i = 0; i < numbers.length; i++) {
            for (int answer = AGAIN; answer <= EASY; answer++) {
                LessonCards x = Made.strong(1000);
                x.rule(Made.TABLE);
                x.table(answer, numbers[i]);
                Made.again(x, 1, answer);
                strength("1000 times " + numbers[i], x, behind[i]);
            }
        }
        int[] more = {999, 1000, 1001, 1002};
        int[] than500 = {500, 500, 500, 501};
        for (int i = 0; i < more.length; i++) {
            LessonCards x = Made.strong(500);
            x.rule(Made.TABLE);
            x.table(HARD, more[i]);
            Made.again(x, 1, HARD);
            strength("500 times " + more[i], x, than500[i]);
        }
    }

    /** "4000000 at most". */
    private static void tableIs4000000AtMost() {
        int[] numbers = {62499, 62500, 62501, 100000};
        int[] behind = {3999936, 4000000, 4000000, 4000000};
        for (int i = 0; i < numbers.length; i++) {
            for (int answer = AGAIN; answer <= EASY; answer++) {
                LessonCards x = Made.strong(64000);
                x.rule(Made.TABLE);
                x.table(answer, numbers[i]);
                Made.again(x, 60, answer);
                strength("64000 times " + numbers[i], x, behind[i]);
            }
        }
        LessonCards x = Made.veryStrong(100000, 40000);
        strength("100000 times 40000", x, 4000000);
        x.rule(Made.TABLE);
        x.table(GOOD, 100000);
        Made.again(x, LONG, GOOD);
        strength("4000000 times 100000, which is beyond an int", x, 4000000);
        x.table(GOOD, 999);
        Made.again(x, LONG, GOOD);
        strength("4000000 times 999", x, 3996000);
    }

    /** "by HARD STRENGTH times (1000 + (1200 - c)) / 1000": 1303 where c is 897. */
    private static void hardIs4000000AtMost() {
        int[] hundreds = {76745, 76746};
        int[] behind = {3999949, 4000000};
        for (int i = 0; i < hundreds.length; i++) {
            LessonCards x = Made.veryStrong(hundreds[i], 40000);
            x.rule(Made.STRENGTHS);
            Made.days(x, 2878);
            due("14 CHANCE", x.memory(0, 0, 0, 5), 897);
            Made.again(x, 0, HARD);
            strength("by HARD", x, behind[i]);
        }
        LessonCards x = Made.veryStrong(100000, 40000);
        x.rule(Made.STRENGTHS);
        Made.again(x, LONG, HARD);
        strength("4000000 by HARD", x, 4000000);
        Made.again(x, LONG, AGAIN);
        strength("4000000 by AGAIN", x, 800000);
    }

    /** "by GOOD times (1000 + (EASE - 1000) * (1900 - c) / 1000) / 1000": 2504 where c is 897. */
    private static void goodIs4000000AtMost() {
        int[] hundreds = {79870, 79873};
        int[] behind = {3999889, 4000000};
        for (int i = 0; i < hundreds.length; i++) {
            LessonCards x = Made.veryStrong(hundreds[i], 20000);
            x.rule(Made.STRENGTHS);
            Made.days(x, 1498);
            due("14 CHANCE", x.memory(0, 0, 0, 5), 897);
            Made.again(x, 0, GOOD);
            strength("by GOOD", x, behind[i]);
        }
        LessonCards x = Made.veryStrong(100000, 40000);
        x.rule(Made.STRENGTHS);
        Made.again(x, 99000, GOOD);
        strength("4000000 by GOOD, CHANCE 0", x, 4000000);
    }

    /** "by EASY likewise, and that times 1300 / 1000". */
    private static void easyIs4000000AtMost() {
        int[] hundreds = {12288, 12289};
        int[] behind = {3999989, 4000000};
        for (int i = 0; i < hundreds.length; i++) {
            LessonCards x = Made.veryStrong(hundreds[i], 100000);
            x.rule(Made.STRENGTHS);
            Made.days(x, 1153);
            due("14 CHANCE", x.memory(0, 0, 0, 5), 897);
            Made.again(x, 0, EASY);
            strength("by EASY", x, behind[i]);
        }
        LessonCards x = Made.veryStrong(100000, 40000);
        x.rule(Made.STRENGTHS);
        Made.again(x, 99000, EASY);
        strength("4000000 by EASY, CHANCE 0", x, 4000000);
        ease("150 more all the same", x, 2650);
    }

    /** "(all divisions leave the rest away)". */
    private static void restsGoAway() {
        int[] before = {1000, 1001, 1002, 1066};
        int[] hard = {1309, 1304, 1305, 1388};
        for (int i = 0; i < before.length; i++) {
            int chance = Made.chance(16000 / before[i]);
            LessonCards x = Made.strong(before[i]);
            x.rule(Made.STRENGTHS);
            Made.again(x, 1, HARD);
            strength(before[i] + " by HARD", x, hard[i]);
            LessonCards y = Made.strong(before[i]);
            y.rule(Made.STRENGTHS);
            Made.again(y, 1, GOOD);
            strength(before[i] + " by GOOD", y, before[i] * (1000 + 1500 * (1900 - chance) / 1000) / 1000);
        }
        int[] numbers = {1000, 1001, 1998, 1999, 2000};
        int[] table = {501, 501, 1000, 1001, 1002};
        for (int i = 0; i < numbers.length; i++) {
            LessonCards x = Made.strong(501);
            x.rule(Made.TABLE);
            x.table(EASY, numbers[i]);
            Made.again(x, 1, EASY);
            strength("501 times " + numbers[i], x, table[i]);
        }
    }

    /** "EASY: the rest goes away ahead of the 1300, too." */
    private static void easyLosesItsRestTwice() {
        // By GOOD they come to 1326, 1329, 1331, 1334 and 1347, each with a rest that 1300 / 1000 could bring back.
        int[] before = {501, 502, 503, 504, 509};
        int[] behind = {1723, 1727, 1730, 1734, 1751};
        for (int i = 0; i < before.length; i++) {
            LessonCards x = Made.strong(before[i]);
            x.rule(Made.STRENGTHS);
            Made.again(x, 1, EASY);
            strength(before[i] + " by EASY", x, behind[i]);
        }
        LessonCards y = Made.likeCards(1);
        y.rule(Made.STRENGTHS);
        y.start(0);
        y.answer(0, AGAIN);
        y.answer(0, EASY);
        strength("500 by GOOD is 1175; times 1300 is 1527 and a rest", y, 1527);
        ease("150 more", y, 2650);
    }

    /** "c being its CHANCE on that day": 1000 on the day of the latest answer, 0 long behind it. */
    private static void chanceOfThatDay() {
        int[] same = {500, 600, 1175, 1527};
        int[] long500 = {500, 1100, 1925, 2502};
        for (int answer = AGAIN; answer <= EASY; answer++) {
            LessonCards x = Made.likeCards(1);
            x.rule(Made.STRENGTHS);
            x.start(0);
            x.answer(0, AGAIN);
            x.answer(0, answer);
            strength("500 on the same day by " + answer, x, same[answer]);
            LessonCards y = Made.likeCards(1);
            y.rule(Made.STRENGTHS);
            y.start(0);
            y.answer(0, AGAIN);
            Made.again(y, 1000, answer);
            strength("500 long behind by " + answer, y, long500[answer]);
        }
    }

    /** "EASE, BOX, and STRENGTH that a rule does not name stay." */
    private static void whatARuleDoesNotName() {
        LessonCards x = boxed(EASY, GOOD);
        box("3", x, 3, 8000);
        int[] rules = {Made.STRENGTHS, Made.TABLE};
        for (int rule : rules) {
            x.rule(rule);
            for (int answer = AGAIN; answer <= EASY; answer++) {
                more(x, answer);
                due("10 BOX stays by rule " + rule, x.memory(0, 0, 0, 2), 3);
            }
        }
        x.rule(Made.BOXES);
        more(x, HARD);
        box("HARD by BOXES then", x, 3, 8000);
    }

    /** "AGAINS and the DAY are as told": AGAINS by AGAIN alone, the DAY by each answer. */
    private static void againsAndDay() {
        for (int rule = Made.BOXES; rule <= Made.TABLE; rule++) {
            LessonCards x = Made.likeCards(1);
            x.rule(rule);
            int day = 0;
            for (int i = 0; i < 8; i++) {
                int answer = i % 4;
                Made.again(x, i == 0 ? 0 : LONG, answer);
                day += i == 0 ? 0 : LONG;
                due("14 DAY", x.memory(0, 0, 0, 3), day);
                due("14 AGAINS", x.memory(0, 0, 0, 4), i < 4 ? 1 : 2);
            }
            Made.days(x, 100);
            due("14 DAY of the latest answer", x.memory(0, 0, 0, 3), day);
        }
    }
}
