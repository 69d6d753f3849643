/** What the document says of TESTS (part 4, promises 23 to 26), at its boundaries. */
public final class LevelEdgesTest {
    private static final int NONE = Made.NONE, EMPTY = Made.EMPTY;
    private static final int[] FAR_OFF = {Integer.MIN_VALUE, -1000, 1000, Integer.MAX_VALUE};

    public static void main(String[] args) {
        levelsTwoToEight();
        slipAndGuess();
        refusedTestLeavesTheOther();
        beforeAnyTest();
        weightsAtFirst();
        weightsOfLevels();
        questionsOneToLast();
        rightOrWrong();
        knownFromItsLevelOn();
        dividedByTheirDivisor();
        sixAnswers();
        nineTimesOneOther();
        nineTimesTwoOthers();
        nineTimesSevenOthers();
        overIsEmpty();
        bestIsTheLeastOfLike();
        bestIsTheGreatest();
        levelIsTheLeastOfLike();
        aTestBeginsAnew();
        theGreatestWeights();
        Dues.end("LevelEdgesTest");
    }

    private static void due(String call, long got, long want) {
        Dues.due(call, got, want);
    }

    private static void weights(String what, LessonCards x, long... weights) {
        due(what + ": 25 no level -1", x.weight(-1), NONE);
        for (int i = 0; i < weights.length; i++) {
            due(what + ": 25 level " + i, x.weight(i), weights[i]);
        }
        due(what + ": 25 no level behind the last", x.weight(weights.length), NONE);
    }

    /** "levels 0 .. n - 1 (n 2 .. 8)". */
    private static void levelsTwoToEight() {
        LessonCards x = new LessonCards();
        due("23 1 level", x.test(1, 100, 100), NONE);
        due("23 0 levels", x.test(0, 100, 100), NONE);
        due("23 9 levels", x.test(9, 100, 100), NONE);
        due("23 -1 levels", x.test(-1, 100, 100), NONE);
        for (int far : FAR_OFF) {
            due("23 far off", x.test(far, 100, 100), NONE);
        }
        due("26 no test yet", x.level(), NONE);
        due("23 2 levels", x.test(2, 100, 100), 1);
        weights("2 levels", x, 1, 1);
        due("23 8 levels", x.test(8, 100, 100), 1);
        weights("8 levels", x, 1, 1, 1, 1, 1, 1, 1, 1);
        due("23 7 levels", x.test(7, 100, 100), 1);
        weights("7 levels", x, 1, 1, 1, 1, 1, 1, 1);
    }

    /** "SLIP and GUESS (1 .. 499)". */
    private static void slipAndGuess() {
        int[] wrong = {0, 500, -1, 501, Integer.MIN_VALUE, Integer.MAX_VALUE};
        LessonCards x = new LessonCards();
        for (int one : wrong) {
            due("23 SLIP " + one, x.test(2, one, 100), NONE);
            due("23 GUESS " + one, x.test(2, 100, one), NONE);
            due("23 both " + one, x.test(2, one, one), NONE);
        }
        due("24 none of them began", x.told(1, 1), EMPTY);
        int[] ends = {1, 2, 498, 499};
        for (int slip : ends) {
            for (int guess : ends) {
                due("23 ends", x.test(2, slip, guess), 1);
                x.told(1, 1);
                long divisor = divisor(guess, 1000 - slip);
                weights("right", x, guess / divisor, (1000 - slip) / divisor);
                due("23 ends", x.test(2, slip, guess), 1);
                x.told(1, 0);
                divisor = divisor(1000 - guess, slip);
                weights("wrong", x, (1000 - guess) / divisor, slip / divisor);
            }
        }
    }

    private static long divisor(long a, long b) {
        long divisor = 1;
        for (long i = 2; i <= a && i <= b; i++) {
            if (a % i == 0 && b % i == 0) {
                divisor = i;
            }
        }
        return divisor;
    }

    /** "What is refused changes nothing": a test goes on. */
    private static void refusedTestLeavesTheOther() {
        LessonCards x = new LessonCards();
        x.test(3, 100, 200);
        x.told(1, 1);
        int[][] wrong = {{1, 1, 1}, {9, 1, 1}, {3, 0, 1}, {3, 500, 1}, {3, 1, 0}, {3, 1, 500}};
        for (int[] one : wrong) {
            due("23 refused", x.test(one[0], one[1], one[2]), NONE);
            weights("as it was", x, 2, 9, 9);
        }
        due("24 it goes on, by the SLIP and GUESS of then", x.told(2, 0), 1);
        weights("then", x, 16, 72, 9);
    }

    /** "NONE before any test", "EMPTY: no test has begun". */
    private static void beforeAnyTest() {
        LessonCards x = new LessonCards();
        due("26 NONE", x.level(), NONE);
        for (int level = -1; level <= 8; level++) {
            due("25 NONE", x.weight(level), NONE);
        }
        for (int question = -1; question <= 9; question++) {
            for (int right = -1; right <= 2; right++) {
                due("24 EMPTY, ahead of NONE", x.told(question, right), EMPTY);
            }
        }
        x.test(2, 1, 1);
        due("26 the least", x.level(), 0);
        due("25 one", x.weight(0), 1);
    }

    /** "with WEIGHTS 1 each at first". */
    private static void weightsAtFirst() {
        long[] ones = {1, 1, 1, 1, 1, 1, 1, 1};
        for (int levels = 2; levels <= 8; levels++) {
            LessonCards x = new LessonCards();
            due("23 the least question", x.test(levels, 1, 499), 1);
            weights(levels + " levels", x, java.util.Arrays.copyOf(ones, levels));
            due("26 the least level", x.level(), 0);
        }
    }

    /** "NONE: there is none such": also of a longer test that went ahead. */
    private static void weightsOfLevels() {
        LessonCards x = new LessonCards();
        x.test(8, 100, 100);
        x.told(7, 1);
        due("25 the last", x.weight(7), 9);
        due("25 behind it", x.weight(8), NONE);
        due("25 behind it", x.weight(9), NONE);
        x.test(2, 100, 100);
        due("25 the last", x.weight(1), 1);
        due("25 behind it", x.weight(2), NONE);
        due("25 the last of the longer one", x.weight(7), NONE);
        for (int far : FAR_OFF) {
            due("25 far off", x.weight(far), NONE);
        }
    }

    /** "a question q (1 .. n - 1)": "NONE: no such question". */
    private static void questionsOneToLast() {
        for (int levels = 2; levels <= 8; levels++) {
            LessonCards x = new LessonCards();
            x.test(levels, 499, 499);
            int[] wrong = {-1, 0, levels, levels + 1, 8, 9, Integer.MIN_VALUE, Integer.MAX_VALUE};
            for (int question : wrong) {
                due("24 question " + question + " of " + levels, x.told(question, 1), NONE);
                due("25 it changes nothing", x.weight(0) + x.weight(levels - 1), 2);
            }
            due("24 the least is one", x.told(1, 1) >= 1 ? 1 : 0, 1);
            due("25 it changes level 0 alone", x.weight(0), 499);
            due("25 it changes level 0 alone", x.weight(1), 501);
            x.test(levels, 499, 499);
            due("24 the greatest is one", x.told(levels - 1, 1) >= 1 ? 1 : 0, 1);
            due("25 all but the last", x.weight(levels - 2), 499);
            due("25 the last", x.weight(levels - 1), 501);
        }
    }

    /** "(right 1, wrong 0)": "NONE: no such .. answer". */
    private static void rightOrWrong() {
        LessonCards x = new LessonCards();
        x.test(3, 400, 300);
        int[] wrong = {-1, 2, 3, Integer.MIN_VALUE, Integer.MAX_VALUE};
        for (int right : wrong) {
            due("24 answer " + right, x.told(1, right), NONE);
            weights("as it was", x, 1, 1, 1);
        }
        due("24 wrong", x.told(1, 0), 1);
        weights("wrong", x, 7, 4, 4);
        due("24 right", x.told(2, 1), 1);
        weights("right", x, 7, 4, 8);
    }

    /** "known at levels q and above". */
    private static void knownFromItsLevelOn() {
        for (int question = 1; question <= 7; question++) {
            LessonCards x = new LessonCards();
            x.test(8, 400, 300);
            x.told(question, 1);
            for (int level = 0; level < 8; level++) {
                due("25 right", x.weight(level), level >= question ? 2 : 1);
            }
            due("26 the least that knows it", x.level(), question);
            x.test(8, 400, 300);
            x.told(question, 0);
            for (int level = 0; level < 8; level++) {
                due("25 wrong", x.weight(level), level >= question ? 4 : 7);
            }
            due("26 the least", x.level(), 0);
        }
    }

    /** "then all are divided by their greatest common divisor": 1, a hundred, and all. */
    private static void dividedByTheirDivisor() {
        LessonCards x = new LessonCards();
        x.test(2, 499, 498);
        x.told(1, 1);
        weights("498 and 501 by 3", x, 166, 167);
        x.test(2, 499, 499);
        x.told(1, 1);
        weights("499 and 501 by 1", x, 499, 501);
        x.told(1, 0);
        weights("all by what they are", x, 1, 1);
        x.test(2, 200, 400);
        x.told(1, 1);
        weights("400 and 800 by 400", x, 1, 2);
        x.told(1, 0);
        weights("600 and 400 by 200", x, 3, 2);
    }

    /** "At most 6 questions": the fifth goes on, the sixth is the last. */
    private static void sixAnswers() {
        LessonCards x = new LessonCards();
        x.test(2, 499, 499);
        for (int i = 1; i <= 5; i++) {
            due("24 answer " + i, x.told(1, 1), 1);
            due("24 refused ones do not count", x.told(2, 1), NONE);
        }
        due("25 501 to the power of 5", x.weight(1), 501L * 501 * 501 * 501 * 501);
        due("24 the sixth", x.told(1, 1), 0);
        due("25 it counts", x.weight(1), 501L * 501 * 501 * 501 * 501 * 501);
        due("24 the seventh", x.told(1, 1), EMPTY);
        due("24 the seventh, of no question", x.told(2, 1), EMPTY);
        due("25 it does not count", x.weight(1), 501L * 501 * 501 * 501 * 501 * 501);
        due("26 level", x.level(), 1);
        due("23 anew", x.test(2, 499, 499), 1);
        for (int i = 1; i <= 6; i++) {
            due("24 six once more", x.told(1, 0), i < 6 ? 1 : 0);
        }
    }

    /** Begins a test and answers one question; 0 if it is OVER then. */
    private static void once(int levels, int slip, int guess, int question, int right, boolean over) {
        LessonCards x = new LessonCards();
        x.test(levels, slip, guess);
        String what = "24 " + levels + " levels, " + slip + ", " + guess;
        due(what, x.told(question, right) == 0 ? 1 : 0, over ? 1 : 0);
        due(what + " then", x.told(question, right) == EMPTY ? 1 : 0, over ? 1 : 0);
    }

    /** "the greatest WEIGHT is at least 9 times all others together": just so, just more, just less. */
    private static void nineTimesOneOther() {
        once(2, 100, 100, 1, 1, true);
        once(2, 99, 100, 1, 1, true);
        once(2, 101, 100, 1, 1, false);
        once(2, 100, 99, 1, 1, true);
        once(2, 100, 101, 1, 1, false);
        once(2, 100, 100, 1, 0, true);
        once(2, 100, 99, 1, 0, true);
        once(2, 100, 101, 1, 0, false);
        once(2, 99, 100, 1, 0, true);
        once(2, 101, 100, 1, 0, false);
        LessonCards x = new LessonCards();
        x.test(2, 250, 250);
        due("24 3 is not 9 times 1", x.told(1, 1), 1);
        due("24 9 is", x.told(1, 1), 0);
        weights("9 times", x, 1, 9);
    }

    private static void nineTimesTwoOthers() {
        once(3, 100, 50, 2, 1, true);
        once(3, 99, 50, 2, 1, true);
        once(3, 101, 50, 2, 1, false);
        once(3, 100, 49, 2, 1, true);
        once(3, 100, 51, 2, 1, false);
        once(3, 50, 100, 1, 0, true);
        once(3, 50, 99, 1, 0, true);
        once(3, 50, 101, 1, 0, false);
        once(3, 51, 100, 1, 0, false);
        once(3, 1, 1, 1, 1, false);
        once(3, 1, 1, 2, 0, false);
    }

    private static void nineTimesSevenOthers() {
        once(8, 55, 15, 7, 1, true);
        once(8, 54, 15, 7, 1, true);
        once(8, 56, 15, 7, 1, false);
        once(8, 55, 16, 7, 1, false);
        once(8, 15, 55, 1, 0, true);
        once(8, 15, 54, 1, 0, true);
        once(8, 15, 56, 1, 0, false);
        once(8, 16, 55, 1, 0, false);
    }

    /** "EMPTY: .. it is OVER already": weights and level are told all the same. */
    private static void overIsEmpty() {
        LessonCards x = new LessonCards();
        x.test(2, 100, 100);
        due("24 OVER by the first", x.told(1, 1), 0);
        for (int question = -1; question <= 3; question++) {
            for (int right = -1; right <= 2; right++) {
                due("24 EMPTY, ahead of NONE", x.told(question, right), EMPTY);
            }
        }
        weights("as it was", x, 1, 9);
        due("26 as it was", x.level(), 1);
        due("23 refused", x.test(9, 1, 1), NONE);
        due("24 OVER yet", x.told(1, 1), EMPTY);
        due("23 anew", x.test(2, 101, 100), 1);
        due("24 it is not OVER", x.told(1, 1), 1);
    }

    /** "of several the least q". */
    private static void bestIsTheLeastOfLike() {
        LessonCards x = new LessonCards();
        due("23 all alike", x.test(8, 100, 100), 1);
        x = new LessonCards();
        x.test(3, 100, 200);
        due("24 2, 9, 9: question 2 alone parts the greatest", x.told(1, 1), 2);
        x = new LessonCards();
        x.test(4, 100, 200);
        due("24 2, 9, 9, 9: questions 2 and 3 are alike", x.told(1, 1), 2);
        x = new LessonCards();
        x.test(4, 100, 200);
        due("24 8, 8, 8, 1: questions 1 and 2 are alike", x.told(3, 0), 1);
        x = new LessonCards();
        x.test(3, 400, 300);
        due("24 1, 2, 2: question 2 has 1200 and 1400, 1 has 1200 and 800", x.told(1, 1), 2);
        due("24 1, 2, 4: both have 2400 and 1600", x.told(2, 1), 1);
        weights("1, 2, 4", x, 1, 2, 4);
    }

    /** "the greatest WEIGHT .. behind a right answer, and that behind a wrong one .., are together the greatest". */
    private static void bestIsTheGreatest() {
        LessonCards x = new LessonCards();
        x.test(4, 400, 300);
        due("24 question 1 has 4200 and 4900, 2 and 3 have 2400 and 4900", x.told(2, 0), 1);
        weights("700 and 400", x, 7, 7, 4, 4);
        due("24 question 1 has 8400 and 5600, 2 and 3 have 4800 and 9800", x.told(1, 1), 2);
        weights("2100, 4200, 2400, 2400", x, 7, 14, 8, 8);
        due("24 question 1 has 9600 and 6400, 2 and 3 have 9600 and 9800", x.told(3, 1), 2);
        weights("2100, 4200, 2400, 4800", x, 7, 14, 8, 16);
        LessonCards y = new LessonCards();
        y.test(3, 300, 400);
        due("24 question 1 has 4900 and 2400, 2 has 4900 and 4200", y.told(1, 1), 2);
        weights("400, 700, 700", y, 4, 7, 7);
        due("24 question 1 has 9800 and 4800, 2 has 5600 and 8400", y.told(2, 0), 1);
        weights("2400, 4200, 2100", y, 8, 14, 7);
    }

    /** "The level with the greatest WEIGHT, of several the least". */
    private static void levelIsTheLeastOfLike() {
        LessonCards x = new LessonCards();
        x.test(4, 400, 300);
        due("26 all alike", x.level(), 0);
        x.told(2, 1);
        due("26 2 and 3 are alike", x.level(), 2);
        x.told(3, 0);
        due("26 2 alone", x.level(), 2);
        x.test(4, 400, 300);
        x.told(3, 1);
        due("26 the last alone", x.level(), 3);
        x.test(4, 400, 300);
        x.told(1, 0);
        due("26 the first alone", x.level(), 0);
    }

    /** A test may begin while another goes on, and when it is OVER. */
    private static void aTestBeginsAnew() {
        LessonCards x = new LessonCards();
        x.test(4, 400, 300);
        for (int i = 0; i < 5; i++) {
            x.told(1, i % 2);
        }
        due("23 anew", x.test(3, 499, 498), 1);
        weights("anew", x, 1, 1, 1);
        for (int i = 1; i <= 6; i++) {
            due("24 six are counted anew", x.told(1, i % 2) == 0 ? 1 : 0, i == 6 ? 1 : 0);
        }
        due("24 OVER", x.told(1, 1), EMPTY);
        due("23 anew", x.test(2, 1, 1), 1);
        weights("anew", x, 1, 1);
        due("26 anew", x.level(), 0);
    }

    /** 999 to the power of 6 stands in a long, seven times and eight. */
    private static void theGreatestWeights() {
        long great = 999L * 999 * 999 * 999 * 999 * 999;
        long less = 499L * 499 * 499 * 499 * 499 * 499;
        LessonCards x = new LessonCards();
        x.test(8, 1, 499);
        LessonCards y = new LessonCards();
        y.test(8, 499, 1);
        for (int i = 1; i <= 6; i++) {
            due("24 right", x.told(1, 1), i < 6 ? 2 : 0);
            due("24 wrong", y.told(7, 0), i < 6 ? 1 : 0);
        }
        weights("right", x, less, great, great, great, great, great, great, great);
        weights("wrong", y, great, great, great, great, great, great, great, less);
        due("26 right", x.level(), 1);
        due("26 wrong", y.level(), 0);
    }
}
