import java.math.BigInteger;
import java.util.ArrayList;
import java.util.Arrays;
import java.util.Comparator;
import java.util.HashMap;
import java.util.HashSet;
import java.util.List;
import java.util.Map;
import java.util.Set;

/**
 * The document said once more, as slowly and as near to its words as can be, with all of Java's library:
 * what LessonCards is compared with. Nothing of LessonCards is used here.
 */
final class Plainly {
    static final int NONE = -1, FULL = -2, RING = -3, EMPTY = -4, OPEN = -5;

    record Side(int card, int side) {
    }

    record Memory(int strength, int ease, int box, int day, int agains) {
        static final Memory NEW = new Memory(0, 2500, 0, -1, 0);

        boolean isNew() {
            return day == -1;
        }

        boolean leech() {
            return agains >= 8;
        }

        int chance(int today) {
            if (isNew()) {
                return 0;
            }
            long q = 16000L * (today - day) / strength;
            int f = 1000;
            for (long i = 0; i < q && f > 0; i++) {
                f = f * 9934 / 10000;
            }
            return f;
        }

        boolean due(int today) {
            return !isNew() && !leech() && chance(today) < 900;
        }

        boolean known(int today) {
            return !isNew() && !leech() && !due(today);
        }

        Memory answered(int rule, long[] table, int answer, int today) {
            return answered(rule, table[answer], answer, today);
        }

        Memory answered(int rule, long number, int answer, int today) {
            long s = strength;
            int e = ease;
            int b = box;
            long c = chance(today);
            if (rule == 0) {
                b = answer == 0 ? 0 : answer == 1 ? box : answer == 2 ? box + 1 : box + 2;
                b = b > 9 ? 9 : b;
                s = 1000;
                for (int i = 0; i < b; i++) {
                    s = s * 2;
                }
            } else if (isNew()) {
                s = new int[] {500, 1000, 2500, 6000}[answer];
            } else if (rule == 2) {
                s = bound(s * number / 1000, 500, 4000000);
            } else {
                long times = 1000 + (ease - 1000) * (1900 - c) / 1000;
                if (answer == 0) {
                    s = s / 5;
                    e = ease - 200;
                } else if (answer == 1) {
                    s = s * (1000 + (1200 - c)) / 1000;
                    e = ease - 150;
                } else if (answer == 2) {
                    s = s * times / 1000;
                } else {
                    s = s * times / 1000 * 1300 / 1000;
                    e = ease + 150;
                }
                s = bound(s, 500, 4000000);
                e = (int) bound(e, 1300, 3500);
            }
            return new Memory((int) s, e, b, today, agains + (answer == 0 ? 1 : 0));
        }

        private static long bound(long v, long least, long most) {
            return v < least ? least : v > most ? most : v;
        }
    }

    record Answer(int pupil, Side side, int day, int answer, int rule, long number, Memory before) {
    }

    private static final class Pupil {
        int today = 0;
        Map<Side, Memory> memories = new HashMap<>();
        List<Side> row = new ArrayList<>();
        Set<Side> buried = new HashSet<>();
        Map<Side, Integer> backs = new HashMap<>();

        Memory of(Side side) {
            return memories.getOrDefault(side, Memory.NEW);
        }
    }

    private final List<Integer> cards = new ArrayList<>();
    private final List<Set<Integer>> leans = new ArrayList<>();
    private final Pupil[] pupils = {new Pupil(), new Pupil(), new Pupil(), new Pupil()};
    private final List<Answer> log = new ArrayList<>();
    private final long[] table = {200, 1000, 2000, 3000};
    private int rule = 0;
    private int mostDue = 60;
    private int mostNew = 10;
    private int[] evenLoads = null;
    private Map<Side, Integer> evenDays = null;
    private BigInteger[] weights = null;
    private int slip;
    private int guess;
    private int asked;
    private boolean over;

    int card(int sides) {
        if (sides < 1 || sides > 4) {
            return NONE;
        }
        if (cards.size() == 120) {
            return FULL;
        }
        cards.add(sides);
        leans.add(new HashSet<>());
        return cards.size() - 1;
    }

    private boolean isCard(int card) {
        return card >= 0 && card < cards.size();
    }

    private boolean isSide(int card, int side) {
        return isCard(card) && side >= 0 && side < cards.get(card);
    }

    private static boolean isPupil(int pupil) {
        return pupil >= 0 && pupil < 4;
    }

    private List<Side> sidesOf(int card) {
        List<Side> sides = new ArrayList<>();
        for (int i = 0; i < cards.get(card); i++) {
            sides.add(new Side(card, i));
        }
        return sides;
    }

    private List<Side> allSides() {
        List<Side> sides = new ArrayList<>();
        for (int i = 0; i < cards.size(); i++) {
            sides.addAll(sidesOf(i));
        }
        return sides;
    }

    int lean(int a, int b) {
        if (!isCard(a) || !isCard(b) || a == b || leans.get(a).contains(b)) {
            return NONE;
        }
        Set<Integer> below = new HashSet<>(leans.get(b));
        int size = -1;
        while (size != below.size()) {
            size = below.size();
            for (int card : new ArrayList<>(below)) {
                below.addAll(leans.get(card));
            }
        }
        if (below.contains(a)) {
            return RING;
        }
        if (leans.get(a).size() == 4) {
            return FULL;
        }
        leans.get(a).add(b);
        return leans.get(a).size();
    }

    int rule(int r) {
        if (r < 0 || r > 2) {
            return NONE;
        }
        int was = rule;
        rule = r;
        return was;
    }

    int table(int answer, int v) {
        if (answer < 0 || answer > 3 || v < 1 || v > 100000) {
            return NONE;
        }
        long was = table[answer];
        table[answer] = v;
        return (int) was;
    }

    int most(int due, int fresh) {
        if (due < 0 || due > 400 || fresh < 0 || fresh > 100) {
            return NONE;
        }
        mostDue = due;
        mostNew = fresh;
        return 1;
    }

    int day(int pupil, int n) {
        if (!isPupil(pupil) || n < 1 || n > 1000 || pupils[pupil].today > 100000 - n) {
            return NONE;
        }
        Pupil p = pupils[pupil];
        p.today += n;
        p.row.clear();
        p.buried.clear();
        p.backs.clear();
        return p.today;
    }

    private List<Side> rowOf(Pupil p, int today, Set<Side> buried, int due, int fresh) {
        List<Side> row = new ArrayList<>();
        for (int card = 0; card < cards.size(); card++) {
            List<Side> sides = sidesOf(card);
            sides.removeIf(s -> buried.contains(s) || !p.of(s).due(today));
            sides.sort(Comparator.comparingInt((Side s) -> p.of(s).chance(today)).thenComparingInt(Side::side));
            if (!sides.isEmpty()) {
                row.add(sides.get(0));
            }
        }
        row.sort(Comparator.comparingInt((Side s) -> p.of(s).chance(today)).thenComparingInt(Side::card));
        row = new ArrayList<>(row.subList(0, Math.min(due, row.size())));
        Set<Integer> inRow = new HashSet<>();
        row.forEach(s -> inRow.add(s.card()));
        int came = 0;
        for (int card = 0; card < cards.size(); card++) {
            List<Side> sides = sidesOf(card);
            sides.removeIf(s -> buried.contains(s) || !p.of(s).isNew());
            boolean ready = leans.get(card).stream().allMatch(c -> isKnown(p, c, today));
            if (!sides.isEmpty() && ready && !inRow.contains(card) && came < fresh) {
                row.add(sides.get(0));
                came++;
            }
        }
        return row;
    }

    private boolean isKnown(Pupil p, int card, int today) {
        return sidesOf(card).stream().allMatch(s -> p.of(s).known(today));
    }

    int start(int pupil) {
        if (!isPupil(pupil)) {
            return NONE;
        }
        Pupil p = pupils[pupil];
        if (!p.row.isEmpty()) {
            return OPEN;
        }
        p.row = rowOf(p, p.today, p.buried, mostDue, mostNew);
        return p.row.size();
    }

    int next(int pupil) {
        if (!isPupil(pupil)) {
            return NONE;
        }
        Pupil p = pupils[pupil];
        return p.row.isEmpty() ? EMPTY : 4 * p.row.get(0).card() + p.row.get(0).side();
    }

    int answer(int pupil, int answer) {
        if (!isPupil(pupil) || answer < 0 || answer > 3) {
            return NONE;
        }
        Pupil p = pupils[pupil];
        if (p.row.isEmpty()) {
            return EMPTY;
        }
        if (log.size() == 3000) {
            return FULL;
        }
        Side side = p.row.remove(0);
        Memory before = p.of(side);
        Memory behind = before.answered(rule, table, answer, p.today);
        p.memories.put(side, behind);
        log.add(new Answer(pupil, side, p.today, answer, rule, table[answer], before));
        int backs = p.backs.getOrDefault(side, 0);
        if (answer == 0 && backs < 2 && !behind.leech()) {
            p.backs.put(side, backs + 1);
            p.row.add(side);
        }
        return p.row.size();
    }

    int skip(int pupil) {
        if (!isPupil(pupil)) {
            return NONE;
        }
        Pupil p = pupils[pupil];
        if (p.row.isEmpty()) {
            return EMPTY;
        }
        p.row.add(p.row.remove(0));
        return p.row.size();
    }

    int bury(int pupil, int card, int side) {
        Side one = new Side(card, side);
        if (!isPupil(pupil) || !isSide(card, side) || !pupils[pupil].buried.add(one)) {
            return NONE;
        }
        pupils[pupil].row.remove(one);
        return pupils[pupil].row.size();
    }

    int undo() {
        if (log.isEmpty()) {
            return EMPTY;
        }
        Answer last = log.remove(log.size() - 1);
        pupils[last.pupil()].memories.put(last.side(), last.before());
        pupils[last.pupil()].row.clear();
        return log.size();
    }

    int memory(int pupil, int card, int side, int what) {
        if (!isPupil(pupil) || !isSide(card, side) || what < 0 || what > 9) {
            return -2;
        }
        Pupil p = pupils[pupil];
        Side one = new Side(card, side);
        Memory m = p.of(one);
        int[] all = {m.strength(), m.ease(), m.box(), m.day(), m.agains(), m.chance(p.today),
            m.due(p.today) ? 1 : 0, m.known(p.today) ? 1 : 0, m.leech() ? 1 : 0, p.buried.contains(one) ? 1 : 0};
        return all[what];
    }

    int when(int pupil, int card, int side) {
        if (!isPupil(pupil) || !isSide(card, side)) {
            return NONE;
        }
        Pupil p = pupils[pupil];
        Memory m = p.of(new Side(card, side));
        if (m.isNew() || m.leech()) {
            return NONE;
        }
        int day = p.today;
        while (!m.due(day)) {
            day++;
        }
        return day;
    }

    int pupil(int pupil, int what) {
        if (!isPupil(pupil) || what < 0 || what > 5) {
            return NONE;
        }
        Pupil p = pupils[pupil];
        if (what == 0) {
            int known = 0;
            for (int i = 0; i < cards.size(); i++) {
                known += isKnown(p, i, p.today) ? 1 : 0;
            }
            return known;
        }
        if (what == 4) {
            return p.row.size();
        }
        if (what == 5) {
            return p.today;
        }
        return (int) allSides().stream().map(p::of)
            .filter(m -> what == 1 ? m.due(p.today) : what == 2 ? m.isNew() : m.leech()).count();
    }

    int known(int pupil, int card) {
        if (!isPupil(pupil) || !isCard(card)) {
            return NONE;
        }
        return isKnown(pupils[pupil], card, pupils[pupil].today) ? 1 : 0;
    }

    int mean(int card, int side) {
        if (!isSide(card, side)) {
            return NONE;
        }
        int sum = 0;
        for (Pupil p : pupils) {
            sum += p.of(new Side(card, side)).chance(p.today);
        }
        return sum;
    }

    int plan(int pupil, int n) {
        if (!isPupil(pupil) || n < 0 || n > 59) {
            return NONE;
        }
        Pupil p = new Pupil();
        p.memories.putAll(pupils[pupil].memories);
        int asked = 0;
        for (int i = 0; i <= n; i++) {
            int today = pupils[pupil].today + i;
            Set<Side> buried = i == 0 ? pupils[pupil].buried : Set.of();
            List<Side> row = rowOf(p, today, buried, Integer.MAX_VALUE, 0);
            row.forEach(s -> p.memories.put(s, p.of(s).answered(rule, table, 2, today)));
            asked = row.size();
        }
        return asked;
    }

    int even(int pupil, int w) {
        if (!isPupil(pupil) || w < 0 || w > 20) {
            return NONE;
        }
        Pupil p = pupils[pupil];
        Map<Side, Integer> first = new HashMap<>();
        int[] count = new int[61];
        for (Side side : allSides()) {
            Memory m = p.of(side);
            for (int i = 0; i <= 60 && !m.isNew() && !m.leech(); i++) {
                if (m.due(p.today + i)) {
                    first.put(side, i);
                    count[i]++;
                    break;
                }
            }
        }
        int g = 0;
        for (int a = 0; a <= 60; a++) {
            int sum = 0;
            for (int b = a; b <= 60; b++) {
                sum += count[b];
                int days = b - a + 1 + w;
                g = Math.max(g, (sum + days - 1) / days);
            }
        }
        evenLoads = new int[81];
        evenDays = new HashMap<>();
        for (int i = 0; i <= 80; i++) {
            int today = i;
            List<Side> waiting = new ArrayList<>(first.keySet());
            waiting.removeIf(s -> first.get(s) > today || evenDays.containsKey(s));
            waiting.sort(Comparator.comparingInt((Side s) -> first.get(s))
                .thenComparingInt(Side::card).thenComparingInt(Side::side));
            for (Side side : waiting.subList(0, Math.min(g, waiting.size()))) {
                evenDays.put(side, i);
                evenLoads[i]++;
                if (i > first.get(side) + w) {
                    throw new IllegalStateException("the model itself puts a side too late");
                }
            }
        }
        return g;
    }

    int load(int n) {
        return evenLoads == null || n < 0 || n > 80 ? NONE : evenLoads[n];
    }

    int put(int card, int side) {
        return evenDays == null ? NONE : evenDays.getOrDefault(new Side(card, side), NONE);
    }

    int test(int levels, int slip, int guess) {
        if (levels < 2 || levels > 8 || slip < 1 || slip > 499 || guess < 1 || guess > 499) {
            return NONE;
        }
        weights = new BigInteger[levels];
        Arrays.fill(weights, BigInteger.ONE);
        this.slip = slip;
        this.guess = guess;
        asked = 0;
        over = false;
        return best();
    }

    private BigInteger[] behind(int question, int right) {
        BigInteger[] behind = new BigInteger[weights.length];
        for (int i = 0; i < weights.length; i++) {
            int known = right == 1 ? 1000 - slip : slip;
            int other = right == 1 ? guess : 1000 - guess;
            behind[i] = weights[i].multiply(BigInteger.valueOf(i >= question ? known : other));
        }
        return behind;
    }

    private static BigInteger greatest(BigInteger[] all) {
        return Arrays.stream(all).reduce(BigInteger.ZERO, BigInteger::max);
    }

    private int best() {
        int best = 0;
        BigInteger most = BigInteger.ZERO;
        for (int q = weights.length - 1; q >= 1; q--) {
            BigInteger both = greatest(behind(q, 1)).add(greatest(behind(q, 0)));
            if (both.compareTo(most) >= 0) {
                most = both;
                best = q;
            }
        }
        return best;
    }

    int told(int question, int right) {
        if (weights == null || over) {
            return EMPTY;
        }
        if (question < 1 || question >= weights.length || right < 0 || right > 1) {
            return NONE;
        }
        weights = behind(question, right);
        BigInteger divisor = Arrays.stream(weights).reduce(BigInteger.ZERO, BigInteger::gcd);
        for (int i = 0; i < weights.length; i++) {
            weights[i] = weights[i].divide(divisor);
        }
        asked++;
        BigInteger sum = Arrays.stream(weights).reduce(BigInteger.ZERO, BigInteger::add);
        BigInteger others = sum.subtract(greatest(weights));
        over = asked == 6 || greatest(weights).compareTo(others.multiply(BigInteger.valueOf(9))) >= 0;
        return over ? 0 : best();
    }

    long weight(int level) {
        return weights == null || level < 0 || level >= weights.length ? NONE : weights[level].longValueExact();
    }

    int level() {
        return weights == null ? NONE : Arrays.asList(weights).indexOf(greatest(weights));
    }

    int log() {
        return log.size();
    }

    int logged(int i, int what) {
        if (i < 0 || i >= log.size() || what < 0 || what > 4) {
            return NONE;
        }
        Answer a = log.get(i);
        return new int[] {a.pupil(), a.side().card(), a.side().side(), a.day(), a.answer()}[what];
    }

    private long surpriseOf(int pupil, int byRule, Map<Side, Memory> memories) {
        long surprise = 0;
        for (Answer a : log) {
            if (a.pupil() == pupil) {
                Memory m = memories.getOrDefault(a.side(), Memory.NEW);
                if (!m.isNew()) {
                    surprise += a.answer() == 0 ? m.chance(a.day()) : 1000 - m.chance(a.day());
                }
                memories.put(a.side(), m.answered(byRule, table, a.answer(), a.day()));
            }
        }
        return surprise;
    }

    long surprise(int pupil, int byRule) {
        if (!isPupil(pupil) || byRule < 0 || byRule > 2) {
            return NONE;
        }
        return surpriseOf(pupil, byRule, new HashMap<>());
    }

    int better(int pupil) {
        if (!isPupil(pupil)) {
            return NONE;
        }
        int best = 2;
        for (int r = 1; r >= 0; r--) {
            if (surprise(pupil, r) <= surprise(pupil, best)) {
                best = r;
            }
        }
        return best;
    }

    int other(int pupil, int byRule, int card, int side) {
        if (!isPupil(pupil) || byRule < 0 || byRule > 2 || !isSide(card, side)) {
            return NONE;
        }
        Map<Side, Memory> memories = new HashMap<>();
        surpriseOf(pupil, byRule, memories);
        return memories.getOrDefault(new Side(card, side), Memory.NEW).strength();
    }

    int check(int pupil) {
        if (!isPupil(pupil)) {
            return NONE;
        }
        Map<Side, Memory> memories = new HashMap<>();
        for (Answer a : log) {
            if (a.pupil() == pupil) {
                Memory m = memories.getOrDefault(a.side(), Memory.NEW);
                memories.put(a.side(), m.answered(a.rule(), a.number(), a.answer(), a.day()));
            }
        }
        return allSides().stream()
            .allMatch(s -> memories.getOrDefault(s, Memory.NEW).equals(pupils[pupil].of(s))) ? 1 : 0;
    }
}
