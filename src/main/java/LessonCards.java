import java.util.ArrayList;

/** A keeper of what pupils are learning, as ../shared/DOC.md tells it. */
public final class LessonCards {
    public static final int NONE = -1, FULL = -2, RING = -3, EMPTY = -4, OPEN = -5;

    /** What memory() answers where there is nothing, as -1 tells there that a side is NEW. */
    private static final int NOTHING = -2;

    private static final int CARDS = 120, SIDES = 4, PLACES = CARDS * SIDES, LEANS = 4, PUPILS = 4;
    private static final int LAST_DAY = 100000, LONGEST_STEP = 1000, LOGGED = 3000;
    private static final int MOST_OF_DUE = 400, MOST_OF_NEW = 100, GREATEST_NUMBER = 100000;
    private static final int PLANNED_DAYS = 60, EVENED_DAYS = 60, LONGEST_DELAY = 20;

    private static final int BOXES = 0, STRENGTHS = 1, TABLE = 2, AS_GIVEN = 3;
    private static final int AGAIN = 0, HARD = 1, GOOD = 2, EASY = 3;
    private static final int DUE = 1, FRESH = 2, LEECH = 3;

    private static final int CERTAIN = 1000, DUE_BELOW = 900, LEECH_AGAINS = 8, MOST_BACKS = 2;
    private static final int LEAST_STRENGTH = 500, GREATEST_STRENGTH = 4000000;
    private static final int FIRST_EASE = 2500, LEAST_EASE = 1300, GREATEST_EASE = 3500, LAST_BOX = 9;

    private static final int LEVELS = 8, GREATEST_CHANCE = 499, QUESTIONS = 6;

    private final Curve curve = new Curve();
    private final Deck deck = new Deck();
    private final Learner[] learners = new Learner[PUPILS];
    /** Memories to try things on: what other rules or coming days would make of the true ones. */
    private final Learner shadow = new Learner();
    private final ArrayList<Entry> entries = new ArrayList<>();
    private final Evening evening = new Evening();
    private final LevelTest levelTest = new LevelTest();
    private final int[] numbers = {200, 1000, 2000, 3000};
    private int ruleNow = BOXES;
    private int mostDue = 60;
    private int mostNew = 10;

    public LessonCards() {
        for (int i = 0; i < learners.length; i++) {
            learners[i] = new Learner();
        }
    }

    // ---- cards and rules

    public int card(int sides) {
        if (sides < 1 || sides > SIDES) {
            return NONE;
        }
        if (deck.size() >= CARDS) {
            return FULL;
        }
        for (int i = 0; i < learners.length; i++) {
            learners[i].addCard(sides);
        }
        shadow.addCard(sides);
        return deck.addCard();
    }

    public int lean(int a, int b) {
        Card from = deck.cardAt(a);
        if (from == null || deck.cardAt(b) == null || a == b || from.leansOn(b)) {
            return NONE;
        }
        if (deck.leadsTo(b, a)) {
            return RING;
        }
        return from.addLean(b);
    }

    public int rule(int r) {
        if (!isRule(r)) {
            return NONE;
        }
        int before = ruleNow;
        ruleNow = r;
        return before;
    }

    public int table(int answer, int v) {
        if (!isAnswer(answer) || v < 1 || v > GREATEST_NUMBER) {
            return NONE;
        }
        int before = numbers[answer];
        numbers[answer] = v;
        return before;
    }

    public int most(int due, int fresh) {
        if (due < 0 || due > MOST_OF_DUE || fresh < 0 || fresh > MOST_OF_NEW) {
            return NONE;
        }
        mostDue = due;
        mostNew = fresh;
        return 1;
    }

    // ---- days

    public int day(int pupil, int n) {
        Learner learner = learnerAt(pupil);
        if (learner == null || n < 1 || n > LONGEST_STEP || learner.today + n > LAST_DAY) {
            return NONE;
        }
        learner.beginDay(learner.today + n);
        return learner.today;
    }

    public int start(int pupil) {
        Learner learner = learnerAt(pupil);
        if (learner == null) {
            return NONE;
        }
        if (learner.rowSize > 0) {
            return OPEN;
        }
        learner.askDue(mostDue, curve);
        learner.askFresh(mostNew, deck, curve);
        return learner.rowSize;
    }

    public int next(int pupil) {
        Learner learner = learnerAt(pupil);
        if (learner == null) {
            return NONE;
        }
        return learner.rowSize == 0 ? EMPTY : learner.first();
    }

    public int answer(int pupil, int answer) {
        Learner learner = learnerAt(pupil);
        if (learner == null || !isAnswer(answer)) {
            return NONE;
        }
        if (learner.rowSize == 0) {
            return EMPTY;
        }
        if (entries.size() >= LOGGED) {
            return FULL;
        }
        int place = learner.first();
        Memory memory = learner.memoryAt(place);
        learner.dropFirst();
        if (memory != null) {
            int number = numbers[answer];
            entries.add(new Entry(pupil, place, learner.today, answer, ruleNow, number, memory.copy()));
            memory.move(ruleNow, answer, number, learner.today, curve);
            if (answer == AGAIN && memory.comesBack()) {
                learner.append(place);
            }
        }
        return learner.rowSize;
    }

    public int skip(int pupil) {
        Learner learner = learnerAt(pupil);
        if (learner == null) {
            return NONE;
        }
        if (learner.rowSize == 0) {
            return EMPTY;
        }
        int place = learner.first();
        learner.dropFirst();
        learner.append(place);
        return learner.rowSize;
    }

    public int bury(int pupil, int card, int side) {
        Learner learner = learnerAt(pupil);
        Memory memory = memoryOf(pupil, card, side);
        if (learner == null || memory == null || memory.buried) {
            return NONE;
        }
        memory.buried = true;
        learner.drop(placeOf(card, side));
        return learner.rowSize;
    }

    public int undo() {
        if (entries.isEmpty()) {
            return EMPTY;
        }
        Entry entry = entries.remove(entries.size() - 1);
        Learner learner = learnerAt(entry.pupil);
        if (learner != null) {
            Memory memory = learner.memoryAt(entry.place);
            if (memory != null) {
                memory.become(entry.before);
            }
            learner.rowSize = 0;
        }
        return entries.size();
    }

    // ---- memories

    public int memory(int pupil, int card, int side, int what) {
        Learner learner = learnerAt(pupil);
        Memory memory = memoryOf(pupil, card, side);
        if (learner == null || memory == null || what < 0 || what > 9) {
            return NOTHING;
        }
        return what < 5 ? memory.tell(what) : memory.tellOn(what, learner.today, curve);
    }

    public int when(int pupil, int card, int side) {
        Learner learner = learnerAt(pupil);
        Memory memory = memoryOf(pupil, card, side);
        if (learner == null || memory == null || !memory.isToCome()) {
            return NONE;
        }
        return memory.firstDue(learner.today, curve);
    }

    public int pupil(int pupil, int what) {
        Learner learner = learnerAt(pupil);
        if (learner == null) {
            return NONE;
        }
        switch (what) {
            case 0:
                return learner.countKnown(curve);
            case 1:
                return learner.countSides(DUE, curve);
            case 2:
                return learner.countSides(FRESH, curve);
            case 3:
                return learner.countSides(LEECH, curve);
            case 4:
                return learner.rowSize;
            case 5:
                return learner.today;
            default:
                return NONE;
        }
    }

    public int known(int pupil, int card) {
        Learner learner = learnerAt(pupil);
        Hand hand = learner == null ? null : learner.handAt(card);
        if (learner == null || hand == null) {
            return NONE;
        }
        return hand.isKnown(learner.today, curve) ? 1 : 0;
    }

    public int mean(int card, int side) {
        if (shadow.memoryOf(card, side) == null) {
            return NONE;
        }
        int sum = 0;
        for (int i = 0; i < learners.length; i++) {
            Memory memory = learners[i].memoryOf(card, side);
            if (memory != null) {
                sum += memory.chanceOn(learners[i].today, curve);
            }
        }
        return sum;
    }

    // ---- ahead

    public int plan(int pupil, int n) {
        Learner learner = learnerAt(pupil);
        if (learner == null || n < 0 || n >= PLANNED_DAYS) {
            return NONE;
        }
        int asked = 0;
        for (int card = 0; card < deck.size(); card++) {
            Hand hand = learner.handAt(card);
            Hand trial = shadow.handAt(card);
            if (hand != null && trial != null) {
                trial.become(hand);
                asked += isAskedOn(trial, learner.today, n) ? 1 : 0;
            }
        }
        return asked;
    }

    public int even(int pupil, int w) {
        Learner learner = learnerAt(pupil);
        if (learner == null || w < 0 || w > LONGEST_DELAY) {
            return NONE;
        }
        evening.gather(learner, curve);
        return evening.leastGreatest(w);
    }

    public int load(int n) {
        return evening.loadOn(n);
    }

    public int put(int card, int side) {
        return shadow.memoryOf(card, side) == null ? NONE : evening.dayOf(placeOf(card, side));
    }

    // ---- tests

    public int test(int levels, int slip, int guess) {
        if (levels < 2 || levels > LEVELS) {
            return NONE;
        }
        if (slip < 1 || slip > GREATEST_CHANCE || guess < 1 || guess > GREATEST_CHANCE) {
            return NONE;
        }
        levelTest.begin(levels, slip, guess);
        return levelTest.bestQuestion();
    }

    public int told(int question, int right) {
        if (levelTest.over) {
            return EMPTY;
        }
        if (question < 1 || question >= levelTest.levels || right < 0 || right > 1) {
            return NONE;
        }
        levelTest.hear(question, right == 1);
        return levelTest.over ? 0 : levelTest.bestQuestion();
    }

    public long weight(int level) {
        return levelTest.weightOf(level);
    }

    public int level() {
        return levelTest.likeliest();
    }

    // ---- back

    public int log() {
        return entries.size();
    }

    public int logged(int i, int what) {
        if (i < 0 || i >= entries.size()) {
            return NONE;
        }
        return entries.get(i).tell(what);
    }

    public long surprise(int pupil, int rule) {
        if (learnerAt(pupil) == null || !isRule(rule)) {
            return NONE;
        }
        return retell(pupil, rule);
    }

    public int better(int pupil) {
        if (learnerAt(pupil) == null) {
            return NONE;
        }
        int best = BOXES;
        long least = retell(pupil, BOXES);
        for (int rule = STRENGTHS; rule <= TABLE; rule++) {
            long surprise = retell(pupil, rule);
            if (surprise < least) {
                least = surprise;
                best = rule;
            }
        }
        return best;
    }

    public int other(int pupil, int rule, int card, int side) {
        Memory memory = shadow.memoryOf(card, side);
        if (learnerAt(pupil) == null || !isRule(rule) || memory == null) {
            return NONE;
        }
        retell(pupil, rule);
        return memory.strength;
    }

    public int check(int pupil) {
        Learner learner = learnerAt(pupil);
        if (learner == null) {
            return NONE;
        }
        retell(pupil, AS_GIVEN);
        return learner.isLike(shadow) ? 1 : 0;
    }

    // ---- what the calls share

    private static boolean isRule(int rule) {
        return rule >= BOXES && rule <= TABLE;
    }

    private static boolean isAnswer(int answer) {
        return answer >= AGAIN && answer <= EASY;
    }

    /** One number for a card and a side, as next() tells them. */
    private static int placeOf(int card, int side) {
        return SIDES * card + side;
    }

    private Learner learnerAt(int pupil) {
        return pupil < 0 || pupil >= learners.length ? null : learners[pupil];
    }

    private Memory memoryOf(int pupil, int card, int side) {
        Learner learner = learnerAt(pupil);
        return learner == null ? null : learner.memoryOf(card, side);
    }

    /** Lives through the days of a plan on a card's trial memories; whether one is asked on the last. */
    private boolean isAskedOn(Hand trial, int today, int n) {
        boolean asked = false;
        for (int i = 0; i <= n; i++) {
            Memory memory = trial.memoryAt(trial.mostUrgent(today + i, curve));
            asked = memory != null;
            if (memory != null) {
                memory.move(ruleNow, GOOD, numbers[GOOD], today + i, curve);
            }
            // What is BURIED is left out on the first day alone.
            if (i == 0) {
                trial.forgetToday();
            }
        }
        return asked;
    }

    /** Makes the shadow what a rule makes of all answers of a pupil, and answers the SURPRISE. */
    private long retell(int pupil, int rule) {
        shadow.forgetAll();
        long surprise = 0;
        for (int i = 0; i < entries.size(); i++) {
            Entry entry = entries.get(i);
            Memory memory = shadow.memoryAt(entry.place);
            if (entry.pupil == pupil && memory != null) {
                if (!memory.isFresh()) {
                    int chance = memory.chanceOn(entry.day, curve);
                    surprise += entry.answer == AGAIN ? chance : CERTAIN - chance;
                }
                retellOne(memory, entry, rule);
            }
        }
        return surprise;
    }

    private void retellOne(Memory memory, Entry entry, int rule) {
        if (rule == AS_GIVEN) {
            memory.move(entry.rule, entry.answer, entry.number, entry.day, curve);
        } else if (isAnswer(entry.answer)) {
            memory.move(rule, entry.answer, numbers[entry.answer], entry.day, curve);
        }
    }

    /** F, the CHANCE by the sixteenths of its STRENGTH that a side has been left alone. */
    private static final class Curve {
        /** F has come down to 0 ahead of this many steps. */
        private static final int STEPS = 400;

        private final int[] chances = new int[STEPS];
        /** The first step at which a side is DUE. */
        private final int dueStep;

        Curve() {
            int chance = CERTAIN;
            int certainEnough = 0;
            for (int i = 0; i < chances.length; i++) {
                chances[i] = chance;
                if (chance >= DUE_BELOW) {
                    certainEnough++;
                }
                chance = chance * 9934 / 10000;
            }
            dueStep = certainEnough;
        }

        int chanceAt(int step) {
            if (step < 0) {
                return CERTAIN;
            }
            return step < chances.length ? chances[step] : 0;
        }
    }

    /** A MEMORY of a side, and what is noted of the side for today alone. */
    private static final class Memory {
        private int strength;
        private int ease = FIRST_EASE;
        private int box;
        private int day = -1;
        private int agains;
        private boolean buried;
        private int backs;

        Memory copy() {
            Memory copy = new Memory();
            copy.become(this);
            return copy;
        }

        /** What is noted for today stays, as undo() leaves it. */
        void become(Memory from) {
            strength = from.strength;
            ease = from.ease;
            box = from.box;
            day = from.day;
            agains = from.agains;
        }

        void forget() {
            strength = 0;
            ease = FIRST_EASE;
            box = 0;
            day = -1;
            agains = 0;
        }

        void forgetToday() {
            buried = false;
            backs = 0;
        }

        boolean isLike(Memory that) {
            return strength == that.strength && ease == that.ease && box == that.box
                && day == that.day && agains == that.agains;
        }

        boolean isFresh() {
            return strength == 0;
        }

        boolean isLeech() {
            return agains >= LEECH_AGAINS;
        }

        /** Neither NEW nor a LEECH: it is DUE, or some day will be. */
        boolean isToCome() {
            return strength > 0 && agains < LEECH_AGAINS;
        }

        int chanceOn(int today, Curve curve) {
            return strength > 0 ? curve.chanceAt(16000 * (today - day) / strength) : 0;
        }

        boolean isDue(int today, Curve curve) {
            return isToCome() && chanceOn(today, curve) < DUE_BELOW;
        }

        boolean isKnown(int today, Curve curve) {
            return isToCome() && chanceOn(today, curve) >= DUE_BELOW;
        }

        boolean isOfKind(int kind, int today, Curve curve) {
            if (kind == DUE) {
                return isDue(today, curve);
            }
            return kind == FRESH ? isFresh() : isLeech();
        }

        /** The least day on which the step of the curve, rests away, is that of DUE sides. */
        int firstDue(int today, Curve curve) {
            int days = (curve.dueStep * strength + 15999) / 16000;
            return Math.max(today, day + days);
        }

        int tell(int what) {
            switch (what) {
                case 0:
                    return strength;
                case 1:
                    return ease;
                case 2:
                    return box;
                case 3:
                    return day;
                case 4:
                    return agains;
                default:
                    return NOTHING;
            }
        }

        int tellOn(int what, int today, Curve curve) {
            switch (what) {
                case 5:
                    return chanceOn(today, curve);
                case 6:
                    return isDue(today, curve) ? 1 : 0;
                case 7:
                    return isKnown(today, curve) ? 1 : 0;
                case 8:
                    return isLeech() ? 1 : 0;
                case 9:
                    return buried ? 1 : 0;
                default:
                    return NOTHING;
            }
        }

        /** Whether an AGAIN brings the side back today; if so it is counted. */
        boolean comesBack() {
            if (isLeech() || backs >= MOST_BACKS) {
                return false;
            }
            backs++;
            return true;
        }

        void move(int rule, int answer, int number, int today, Curve curve) {
            if (rule == BOXES) {
                moveByBoxes(answer);
            } else if (isFresh()) {
                strength = firstStrength(answer);
            } else if (rule == STRENGTHS) {
                moveByStrengths(answer, chanceOn(today, curve));
            } else {
                strength = boundedStrength((long) strength * number / 1000);
            }
            if (answer == AGAIN) {
                agains++;
            }
            day = today;
        }

        private void moveByBoxes(int answer) {
            if (answer == AGAIN) {
                box = 0;
            } else {
                box = Math.min(LAST_BOX, box + answer - HARD);
            }
            strength = 1000 << box;
        }

        private void moveByStrengths(int answer, int chance) {
            long good = (long) strength * (1000 + (ease - 1000) * (1900 - chance) / 1000) / 1000;
            if (answer == AGAIN) {
                strength = boundedStrength(strength / 5);
                ease = boundedEase(ease - 200);
            } else if (answer == HARD) {
                strength = boundedStrength((long) strength * (1000 + (1200 - chance)) / 1000);
                ease = boundedEase(ease - 150);
            } else if (answer == GOOD) {
                strength = boundedStrength(good);
            } else {
                strength = boundedStrength(good * 1300 / 1000);
                ease = boundedEase(ease + 150);
            }
        }

        private static int firstStrength(int answer) {
            switch (answer) {
                case AGAIN:
                    return 500;
                case HARD:
                    return 1000;
                case GOOD:
                    return 2500;
                default:
                    return 6000;
            }
        }

        private static int boundedStrength(long strength) {
            return (int) Math.max(LEAST_STRENGTH, Math.min(GREATEST_STRENGTH, strength));
        }

        private static int boundedEase(int ease) {
            return Math.max(LEAST_EASE, Math.min(GREATEST_EASE, ease));
        }
    }

    /** A pupil's memories of one card's sides. */
    private static final class Hand {
        private final Memory[] memories;

        Hand(int sides) {
            memories = new Memory[sides < 1 ? 1 : sides];
            for (int i = 0; i < memories.length; i++) {
                memories[i] = new Memory();
            }
        }

        Memory memoryAt(int side) {
            return side < 0 || side >= memories.length ? null : memories[side];
        }

        /** Also what is noted for today: a plan leaves BURIED sides out on its first day. */
        void become(Hand from) {
            for (int i = 0; i < memories.length; i++) {
                Memory memory = from.memoryAt(i);
                if (memory != null) {
                    memories[i].become(memory);
                    memories[i].buried = memory.buried;
                }
            }
        }

        void forgetAll() {
            for (int i = 0; i < memories.length; i++) {
                memories[i].forget();
            }
        }

        void forgetToday() {
            for (int i = 0; i < memories.length; i++) {
                memories[i].forgetToday();
            }
        }

        boolean isLike(Hand that) {
            for (int i = 0; i < memories.length; i++) {
                Memory memory = that.memoryAt(i);
                if (memory == null || !memories[i].isLike(memory)) {
                    return false;
                }
            }
            return true;
        }

        boolean isKnown(int today, Curve curve) {
            for (int i = 0; i < memories.length; i++) {
                if (!memories[i].isKnown(today, curve)) {
                    return false;
                }
            }
            return true;
        }

        int countSides(int kind, int today, Curve curve) {
            int count = 0;
            for (int i = 0; i < memories.length; i++) {
                if (memories[i].isOfKind(kind, today, curve)) {
                    count++;
                }
            }
            return count;
        }

        /** The DUE side, not BURIED, of least CHANCE; NONE if there is none. */
        int mostUrgent(int today, Curve curve) {
            int urgent = NONE;
            int least = CERTAIN;
            for (int i = 0; i < memories.length; i++) {
                Memory memory = memories[i];
                if (!memory.buried && memory.isDue(today, curve)) {
                    int chance = memory.chanceOn(today, curve);
                    if (chance < least) {
                        least = chance;
                        urgent = i;
                    }
                }
            }
            return urgent;
        }

        /** The first side that is NEW and not BURIED; NONE if there is none. */
        int firstFresh() {
            for (int i = 0; i < memories.length; i++) {
                if (memories[i].isFresh() && !memories[i].buried) {
                    return i;
                }
            }
            return NONE;
        }
    }

    /** A pupil: a hand for each card, TODAY, and THE ROW. */
    private static final class Learner {
        private final ArrayList<Hand> hands = new ArrayList<>();
        /** Of a card no more than one side is in THE ROW. */
        private final int[] row = new int[CARDS];
        private int rowSize;
        private int today;

        void addCard(int sides) {
            hands.add(new Hand(sides));
        }

        Hand handAt(int card) {
            return card < 0 || card >= hands.size() ? null : hands.get(card);
        }

        Memory memoryOf(int card, int side) {
            Hand hand = handAt(card);
            return hand == null ? null : hand.memoryAt(side);
        }

        Memory memoryAt(int place) {
            Hand hand = place < 0 ? null : handAt(place / SIDES);
            return hand == null ? null : hand.memoryAt(place % SIDES);
        }

        void beginDay(int day) {
            today = day;
            rowSize = 0;
            for (int i = 0; i < hands.size(); i++) {
                hands.get(i).forgetToday();
            }
        }

        void forgetAll() {
            for (int i = 0; i < hands.size(); i++) {
                hands.get(i).forgetAll();
            }
        }

        boolean isLike(Learner that) {
            for (int i = 0; i < hands.size(); i++) {
                Hand hand = that.handAt(i);
                if (hand == null || !hands.get(i).isLike(hand)) {
                    return false;
                }
            }
            return true;
        }

        int countKnown(Curve curve) {
            int count = 0;
            for (int i = 0; i < hands.size(); i++) {
                if (hands.get(i).isKnown(today, curve)) {
                    count++;
                }
            }
            return count;
        }

        int countSides(int kind, Curve curve) {
            int count = 0;
            for (int i = 0; i < hands.size(); i++) {
                count += hands.get(i).countSides(kind, today, curve);
            }
            return count;
        }

        int first() {
            return rowSize > 0 ? row[0] : NONE;
        }

        void append(int place) {
            if (rowSize < row.length) {
                row[rowSize] = place;
                rowSize++;
            }
        }

        void dropFirst() {
            drop(first());
        }

        void drop(int place) {
            int kept = 0;
            for (int i = 0; i < rowSize && i < row.length; i++) {
                if (row[i] != place) {
                    row[kept] = row[i];
                    kept++;
                }
            }
            rowSize = kept;
        }

        private boolean hasCard(int card) {
            for (int i = 0; i < rowSize && i < row.length; i++) {
                if (row[i] / SIDES == card) {
                    return true;
                }
            }
            return false;
        }

        /** Makes THE ROW's first part: the sides that are DUE, those least remembered ahead. */
        void askDue(int most, Curve curve) {
            rowSize = 0;
            for (int card = 0; card < hands.size(); card++) {
                int side = hands.get(card).mostUrgent(today, curve);
                if (side >= 0) {
                    append(placeOf(card, side));
                    sinkLast(curve);
                }
            }
            rowSize = Math.min(rowSize, most);
        }

        /** Brings the last of THE ROW ahead of all that have a greater CHANCE. */
        private void sinkLast(Curve curve) {
            for (int i = rowSize - 1; i > 0 && i < row.length; i--) {
                if (chanceAt(row[i], curve) >= chanceAt(row[i - 1], curve)) {
                    return;
                }
                int place = row[i];
                row[i] = row[i - 1];
                row[i - 1] = place;
            }
        }

        private int chanceAt(int place, Curve curve) {
            Memory memory = memoryAt(place);
            return memory == null ? 0 : memory.chanceOn(today, curve);
        }

        /** Makes THE ROW's second part: NEW sides of cards that lean on KNOWN ones. */
        void askFresh(int most, Deck deck, Curve curve) {
            int left = most;
            for (int card = 0; card < hands.size() && left > 0; card++) {
                int side = hands.get(card).firstFresh();
                if (side >= 0 && !hasCard(card) && isReady(deck.cardAt(card), curve)) {
                    append(placeOf(card, side));
                    left--;
                }
            }
        }

        private boolean isReady(Card card, Curve curve) {
            if (card == null) {
                return false;
            }
            for (int i = 0; i < card.leanCount && i < card.leans.length; i++) {
                Hand hand = handAt(card.leans[i]);
                if (hand == null || !hand.isKnown(today, curve)) {
                    return false;
                }
            }
            return true;
        }
    }

    /** What a card LEANS on. */
    private static final class Card {
        private final int[] leans = new int[LEANS];
        private int leanCount;

        boolean leansOn(int card) {
            for (int i = 0; i < leanCount && i < leans.length; i++) {
                if (leans[i] == card) {
                    return true;
                }
            }
            return false;
        }

        int addLean(int card) {
            if (leanCount >= leans.length) {
                return FULL;
            }
            leans[leanCount] = card;
            leanCount++;
            return leanCount;
        }
    }

    /** All cards, and the ways from card to card. */
    private static final class Deck {
        private final ArrayList<Card> cards = new ArrayList<>();
        private final int[] reached = new int[CARDS];
        private final boolean[] isReached = new boolean[CARDS];

        int size() {
            return cards.size();
        }

        int addCard() {
            cards.add(new Card());
            return cards.size() - 1;
        }

        Card cardAt(int card) {
            return card < 0 || card >= cards.size() ? null : cards.get(card);
        }

        /** Whether a card leans on another, by however many between them. */
        boolean leadsTo(int from, int to) {
            for (int i = 0; i < isReached.length; i++) {
                isReached[i] = false;
            }
            int count = reach(from, 0);
            for (int i = 0; i < count && i < reached.length; i++) {
                Card card = cardAt(reached[i]);
                for (int k = 0; card != null && k < card.leanCount && k < card.leans.length; k++) {
                    count = reach(card.leans[k], count);
                }
            }
            return to >= 0 && to < isReached.length && isReached[to];
        }

        private int reach(int card, int count) {
            if (card < 0 || card >= isReached.length || isReached[card] || count >= reached.length) {
                return count;
            }
            isReached[card] = true;
            reached[count] = card;
            return count + 1;
        }
    }

    /** An answer in THE LOG, with what is needed to retell it and to take it back. */
    private static final class Entry {
        private final int pupil;
        private final int place;
        private final int day;
        private final int answer;
        private final int rule;
        private final int number;
        private final Memory before;

        Entry(int pupil, int place, int day, int answer, int rule, int number, Memory before) {
            this.pupil = pupil;
            this.place = place;
            this.day = day;
            this.answer = answer;
            this.rule = rule;
            this.number = number;
            this.before = before;
        }

        int tell(int what) {
            switch (what) {
                case 0:
                    return pupil;
                case 1:
                    return place / SIDES;
                case 2:
                    return place % SIDES;
                case 3:
                    return day;
                case 4:
                    return answer;
                default:
                    return NONE;
            }
        }
    }

    /** Sides put on days so that the greatest load is least. */
    private static final class Evening {
        /** The sides to put, each as its first day times PLACES, and its place: so they are in their order. */
        private final int[] waiting = new int[PLACES];
        private int count;
        private final int[] days = new int[PLACES];
        private final int[] loads = new int[EVENED_DAYS + LONGEST_DELAY + 1];
        private boolean made;

        void gather(Learner learner, Curve curve) {
            count = 0;
            for (int place = 0; place < days.length; place++) {
                days[place] = NONE;
                Memory memory = learner.memoryAt(place);
                if (memory != null && memory.isToCome()) {
                    addSide(place, memory.firstDue(learner.today, curve) - learner.today);
                }
            }
            made = true;
        }

        private void addSide(int place, int firstDay) {
            if (firstDay > EVENED_DAYS || count >= waiting.length) {
                return;
            }
            int side = firstDay * PLACES + place;
            int at = count;
            while (at > 0 && at < waiting.length && waiting[at - 1] > side) {
                waiting[at] = waiting[at - 1];
                at--;
            }
            if (at >= 0 && at < waiting.length) {
                waiting[at] = side;
            }
            count++;
        }

        /** All wait equally long, so to put the earliest first fits whenever anything fits. */
        int leastGreatest(int w) {
            for (int g = 0; g < count; g++) {
                if (fits(g, w)) {
                    return g;
                }
            }
            fits(count, w);
            return count;
        }

        private boolean fits(int g, int w) {
            int next = 0;
            for (int day = 0; day < loads.length; day++) {
                int end = next;
                while (end < count && end < waiting.length && end - next < g && waiting[end] / PLACES <= day) {
                    if (waiting[end] / PLACES + w < day) {
                        return false;
                    }
                    putOn(waiting[end] % PLACES, day);
                    end++;
                }
                loads[day] = end - next;
                next = end;
            }
            return next == count;
        }

        private void putOn(int place, int day) {
            if (place >= 0 && place < days.length) {
                days[place] = day;
            }
        }

        int loadOn(int day) {
            return !made || day < 0 || day >= loads.length ? NONE : loads[day];
        }

        int dayOf(int place) {
            return !made || place < 0 || place >= days.length ? NONE : days[place];
        }
    }

    /** A TEST; ahead of the first one it has no levels and is over. */
    private static final class LevelTest {
        /** Euclid's steps on longs are fewer. */
        private static final int STEPS = 200;

        private final long[] weights = new long[LEVELS];
        private int levels;
        private int slip;
        private int guess;
        private int asked;
        private boolean over = true;

        void begin(int levels, int slip, int guess) {
            this.levels = Math.min(levels, weights.length);
            this.slip = slip;
            this.guess = guess;
            asked = 0;
            over = false;
            for (int i = 0; i < weights.length; i++) {
                weights[i] = 1;
            }
        }

        long weightOf(int level) {
            return level < 0 || level >= levels || level >= weights.length ? NONE : weights[level];
        }

        int likeliest() {
            int likeliest = NONE;
            long greatest = 0;
            for (int i = 0; i < levels && i < weights.length; i++) {
                if (weights[i] > greatest) {
                    greatest = weights[i];
                    likeliest = i;
                }
            }
            return likeliest;
        }

        int bestQuestion() {
            int best = 1;
            long greatest = 0;
            for (int question = 1; question < levels; question++) {
                long both = greatestBehind(question, true) + greatestBehind(question, false);
                if (both > greatest) {
                    greatest = both;
                    best = question;
                }
            }
            return best;
        }

        private long greatestBehind(int question, boolean right) {
            long greatest = 0;
            for (int i = 0; i < levels && i < weights.length; i++) {
                greatest = Math.max(greatest, weights[i] * factorOf(i, question, right));
            }
            return greatest;
        }

        private int factorOf(int level, int question, boolean right) {
            if (level >= question) {
                return right ? 1000 - slip : slip;
            }
            return right ? guess : 1000 - guess;
        }

        void hear(int question, boolean right) {
            long divisor = 0;
            for (int i = 0; i < levels && i < weights.length; i++) {
                weights[i] *= factorOf(i, question, right);
                divisor = commonDivisor(weights[i], divisor);
            }
            for (int i = 0; i < levels && i < weights.length; i++) {
                if (divisor > 1) {
                    weights[i] /= divisor;
                }
            }
            asked++;
            over = asked >= QUESTIONS || isClear();
        }

        private static long commonDivisor(long a, long b) {
            long divisor = a;
            long rest = b;
            for (int i = 0; i < STEPS && rest != 0; i++) {
                long next = divisor % rest;
                divisor = rest;
                rest = next;
            }
            return divisor;
        }

        /** Divides the greatest, as 9 times all others might be beyond a long. */
        private boolean isClear() {
            long greatest = 0;
            long all = 0;
            for (int i = 0; i < levels && i < weights.length; i++) {
                greatest = Math.max(greatest, weights[i]);
                all += weights[i];
            }
            return greatest / 9 >= all - greatest;
        }
    }
}
