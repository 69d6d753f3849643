import java.util.Random;

/** Runs of calls by chance (the same each time), each answer compared with what Plainly says. */
public final class ModelTest {
    private static final int CALLS = 500;
    private static final int RUNS = 2500;
    private static final int[] STRAY = {-1, Integer.MIN_VALUE, Integer.MAX_VALUE, 4, 5, 9, 10, 119, 120, 3000, -2};

    private final Random random;
    private final LessonCards real = new LessonCards();
    private final Plainly plain = new Plainly();
    private final StringBuilder told = new StringBuilder();
    private final int profile;
    private boolean differs = false;

    private ModelTest(int seed) {
        random = new Random(seed);
        profile = seed % 6;
    }

    public static void main(String[] args) {
        int runs = args.length > 0 ? Integer.parseInt(args[0]) : RUNS;
        int different = 0;
        for (int seed = 0; seed < runs && different < 3; seed++) {
            ModelTest one = new ModelTest(seed);
            one.run();
            different += one.differs ? 1 : 0;
            Dues.holds("run " + seed + " is as Plainly says", !one.differs);
        }
        Dues.end("ModelTest");
    }

    private void run() {
        setUp();
        for (int i = 0; i < CALLS && !differs; i++) {
            if (chance(70)) {
                study();
            } else if (chance(60)) {
                look();
            } else {
                change();
            }
        }
        if (differs) {
            System.out.println(told);
        }
    }

    private void setUp() {
        int cards = new int[] {3, 12, 40, 6, 1, 25}[profile];
        for (int i = 0; i < cards; i++) {
            card(1 + random.nextInt(4));
        }
        if (profile != 3) {
            same("most", real.most(400, 100), plain.most(400, 100));
            told.append("most(400, 100)");
        }
        rule(random.nextInt(3));
    }

    private boolean chance(int ofHundred) {
        return random.nextInt(100) < ofHundred;
    }

    /** Mostly a number below the bound, else a stray one. */
    private int number(int bound) {
        return chance(97) ? random.nextInt(bound) : STRAY[random.nextInt(STRAY.length)];
    }

    private int pupil() {
        return chance(80) ? profile % 4 : number(4);
    }

    private int aCard() {
        return number(Math.max(1, plainCards));
    }

    private int plainCards = 0;

    private void same(String call, long got, long want) {
        told.append('\n');
        if (got != want) {
            differs = true;
            told.append(call).append(" answered ").append(got).append(", plainly is ").append(want).append('\n');
        }
    }

    private String call(String name, int... arguments) {
        StringBuilder text = new StringBuilder(name).append('(');
        for (int i = 0; i < arguments.length; i++) {
            text.append(i == 0 ? "" : ", ").append(arguments[i]);
        }
        text.append(')');
        told.append(text);
        return text.toString();
    }

    private void study() {
        int p = pupil();
        int what = random.nextInt(100);
        if (what < 8) {
            int n = chance(90) ? 1 + random.nextInt(profile == 4 ? 400 : 5) : number(1002);
            same(call("day", p, n), real.day(p, n), plain.day(p, n));
            same(call("start", p), real.start(p), plain.start(p));
        } else if (what < 20) {
            same(call("start", p), real.start(p), plain.start(p));
        } else if (what < 35) {
            same(call("next", p), real.next(p), plain.next(p));
        } else if (what < 92) {
            int a = profile == 3 && chance(60) ? 0 : number(4);
            same(call("answer", p, a), real.answer(p, a), plain.answer(p, a));
        } else if (what < 95) {
            same(call("skip", p), real.skip(p), plain.skip(p));
        } else if (what < 97) {
            int c = aCard();
            int s = number(4);
            same(call("bury", p, c, s), real.bury(p, c, s), plain.bury(p, c, s));
        } else {
            same(call("undo"), real.undo(), plain.undo());
        }
    }

    private void card(int sides) {
        int got = real.card(sides);
        int want = plain.card(sides);
        plainCards += want >= 0 ? 1 : 0;
        same(call("card", sides), got, want);
    }

    private void rule(int r) {
        same(call("rule", r), real.rule(r), plain.rule(r));
    }

    private void change() {
        int what = random.nextInt(6);
        if (what == 0) {
            card(chance(90) ? 1 + random.nextInt(4) : number(6));
        } else if (what == 1) {
            int a = aCard();
            int b = aCard();
            same(call("lean", a, b), real.lean(a, b), plain.lean(a, b));
        } else if (what == 2) {
            rule(number(3));
        } else if (what == 3) {
            int a = number(4);
            int v = chance(50) ? number(5000) : number(100002);
            same(call("table", a, v), real.table(a, v), plain.table(a, v));
        } else if (what == 4) {
            int d = chance(80) ? number(12) : number(402);
            int f = chance(80) ? number(6) : number(102);
            same(call("most", d, f), real.most(d, f), plain.most(d, f));
        } else {
            test();
        }
    }

    private void test() {
        if (chance(30)) {
            int n = number(9);
            int s = number(500);
            int g = number(500);
            same(call("test", n, s, g), real.test(n, s, g), plain.test(n, s, g));
        }
        int q = number(8);
        int r = number(2);
        same(call("told", q, r), real.told(q, r), plain.told(q, r));
        int l = number(8);
        same(call("weight", l), real.weight(l), plain.weight(l));
        same(call("level"), real.level(), plain.level());
    }

    private void look() {
        int p = pupil();
        int c = aCard();
        int s = number(4);
        switch (random.nextInt(14)) {
            case 0 -> {
                int what = number(10);
                same(call("memory", p, c, s, what), real.memory(p, c, s, what), plain.memory(p, c, s, what));
            }
            case 1 -> same(call("when", p, c, s), real.when(p, c, s), plain.when(p, c, s));
            case 2 -> {
                int what = number(6);
                same(call("pupil", p, what), real.pupil(p, what), plain.pupil(p, what));
            }
            case 3 -> same(call("known", p, c), real.known(p, c), plain.known(p, c));
            case 4 -> same(call("mean", c, s), real.mean(c, s), plain.mean(c, s));
            case 5 -> {
                int n = number(60);
                same(call("plan", p, n), real.plan(p, n), plain.plan(p, n));
            }
            case 6, 7 -> even(p);
            case 8 -> {
                same(call("log"), real.log(), plain.log());
                int i = number(Math.max(1, plain.log()));
                int what = number(5);
                same(call("logged", i, what), real.logged(i, what), plain.logged(i, what));
            }
            case 9 -> {
                int r = number(3);
                same(call("surprise", p, r), real.surprise(p, r), plain.surprise(p, r));
            }
            case 10 -> same(call("better", p), real.better(p), plain.better(p));
            case 11, 12 -> {
                int r = number(3);
                same(call("other", p, r, c, s), real.other(p, r, c, s), plain.other(p, r, c, s));
            }
            default -> same(call("check", p), real.check(p), plain.check(p));
        }
    }

    private void even(int p) {
        if (chance(60)) {
            int w = number(21);
            same(call("even", p, w), real.even(p, w), plain.even(p, w));
        }
        for (int i = 0; i < 3; i++) {
            int n = chance(60) ? number(10) : number(82);
            same(call("load", n), real.load(n), plain.load(n));
            int c = aCard();
            int s = number(4);
            same(call("put", c, s), real.put(c, s), plain.put(c, s));
        }
    }
}
