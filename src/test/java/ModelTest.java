import java.util.ArrayDeque;
import java.util.Deque;
import java.util.Random;

/** All promises together: runs of 512 calls, made from fixed seeds, have the Model's answers. */
public final class ModelTest {
    private static final int RUNS = 700;
    private static final int CALLS = 512;
    private static final int LONGEST_STEP = 75;
    private static final int TOLD = 20;
    private static final int[] ODD = {Integer.MIN_VALUE, Integer.MIN_VALUE + 9, -7, -1, 1 << 30, Integer.MAX_VALUE};
    private static final int[] SIGN_EDGES = {-1, 0, 99, 100, 103, 104, 199, 200, 299, 300};

    private final Random random;
    private final GlossHouse house = new GlossHouse();
    private final Model model = new Model();
    private final Deque<String> told = new ArrayDeque<>();
    private final int words;
    private final int longest;
    private boolean wrong;

    private ModelTest(int seed) {
        random = new Random(seed);
        words = 1 + random.nextInt(4);
        longest = 1 + random.nextInt(8);
    }

    public static void main(String[] args) {
        int failed = 0;
        for (int seed = 0; seed < RUNS && failed < 3; seed++) {
            ModelTest run = new ModelTest(seed);
            run.go();
            if (run.wrong) {
                failed++;
                System.out.println("the run of seed " + seed + " ended so:");
                run.told.forEach(System.out::println);
            }
        }
        System.out.println(RUNS + " runs, " + failed + " with a wrong answer");
        if (failed != 0) {
            System.exit(1);
        }
    }

    private void go() {
        int calls = random.nextInt(4) > 0 ? begin() : 0;
        while (calls < CALLS - LONGEST_STEP && !wrong) {
            calls += step();
        }
    }

    private int begin() {
        int hands = 1 + random.nextInt(5);
        for (int i = 0; i < hands; i++) {
            int tongues = 1 + random.nextInt(7);
            int hours = random.nextInt(21);
            int rate = 1 + random.nextInt(random.nextBoolean() ? 2 : 9);
            check("hand", house.hand(tongues, hours, rate), model.hand(tongues, hours, rate), tongues, hours, rate);
        }
        return hands + newSource();
    }

    /** Some calls that belong together, or one that may be any: how many calls. */
    private int step() {
        int which = random.nextInt(100);
        if (which < 3) {
            return newSource();
        }
        if (which < 15) {
            return newText(piece(), tongue(), hand());
        }
        if (which < 30) {
            return newReviewed();
        }
        if (which < 40) {
            review(piece(), tongue(), hand());
            return 1;
        }
        if (which < 55) {
            change(random.nextInt(15));
        } else {
            ask(random.nextInt(15));
        }
        return 1;
    }

    private int newSource() {
        check("scrap", house.scrap(), model.scrap());
        check("drop", house.drop(), model.drop());
        int calls = 3;
        for (int i = 1 + random.nextInt(8); i > 0; i--) {
            int old = random.nextBoolean() && model.many(0) > 0 ? random.nextInt(model.many(0)) : -1;
            int size = old >= 0 ? model.of(old, 1) : 1 + random.nextInt(longest);
            for (int j = 0; j < size; j++) {
                boolean same = old >= 0 && random.nextInt(10) > 0;
                sayAndSign(same ? model.of(old, 10 + j)
                        : random.nextInt(6) == 0 ? 100 + random.nextInt(2) : random.nextInt(words + 1));
            }
            int kind = random.nextInt(8) == 0 ? 1 : random.nextInt(3) == 0 ? 2 : 0;
            check("piece", house.piece(kind), model.piece(kind), kind);
            calls += size + 1;
        }
        check("turn", house.turn(), model.turn());
        return calls;
    }

    /** Written by one hand that knows the tongue, if there are such, and reviewed by another. */
    private int newReviewed() {
        int p = piece();
        int t = tongue();
        int writer = hand();
        int reviewer = hand();
        for (int tries = 0; tries < 5 && (writer == reviewer || !model.knows(writer, t) || !model.knows(reviewer, t));
                tries++) {
            writer = hand();
            reviewer = hand();
        }
        int calls = newText(p, t, writer);
        review(p, t, reviewer);
        return calls + 1;
    }

    private void review(int p, int t, int h) {
        check("review", house.review(p, t, h), model.review(p, t, h), p, t, h);
    }

    private void sayAndSign(int s) {
        check("sign", house.sign(s), model.sign(s), s);
    }

    /** Often one without a fault of holes: with the same holes as its piece. */
    private int newText(int p, int t, int h) {
        check("scrap", house.scrap(), model.scrap());
        int calls = 2;
        for (int i = 0; i < model.of(p, 1) && random.nextInt(12) > 0; i++) {
            int s = model.of(p, 10 + i);
            if (s >= 100) {
                sayAndSign(s);
                calls++;
            }
        }
        for (int i = random.nextInt(5); i > 0; i--) {
            sayAndSign(200 + random.nextInt(3));
            calls++;
        }
        check("write", house.write(p, t, h), model.write(p, t, h), p, t, h);
        return calls;
    }

    private void change(int which) {
        int a;
        int b;
        int c;
        switch (which) {
            case 0, 1 -> check("sign", house.sign(a = sign()), model.sign(a), a);
            case 2 -> check("scrap", house.scrap(), model.scrap());
            case 3 -> check("piece", house.piece(a = small(4)), model.piece(a), a);
            case 4 -> check("drop", house.drop(), model.drop());
            case 5 -> check("turn", house.turn(), model.turn());
            case 6 -> check("hand", house.hand(a = small(8), b = small(21), c = small(10)),
                    model.hand(a, b, c), a, b, c);
            case 7 -> check("hours", house.hours(a = hand(), b = small(21)), model.hours(a, b), a, b);
            case 8, 9 -> check("term", house.term(a = word(), b = tongue(), c = ownWord()),
                    model.term(a, b, c), a, b, c);
            case 10 -> check("forget", house.forget(a = word(), b = tongue()), model.forget(a, b), a, b);
            case 11, 12 -> check("reuse", house.reuse(a = piece(), b = tongue(), c = hand()),
                    model.reuse(a, b, c), a, b, c);
            case 13 -> check("limit", house.limit(a = small(12)), model.limit(a), a);
            default -> {
                if (random.nextInt(3) == 0) {
                    check("keep", house.keep(), model.keep());
                } else {
                    check("back", house.back(), model.back());
                }
            }
        }
    }

    private void ask(int which) {
        int a;
        int b;
        int c;
        switch (which) {
            case 0 -> check("of", house.of(a = piece(), b = what(18)), model.of(a, b), a, b);
            case 1 -> check("far", house.far(a = piece(), b = piece()), model.far(a, b), a, b);
            case 2 -> check("from", house.from(a = piece()), model.from(a), a);
            case 3 -> check("story", house.story(a = piece()), model.story(a), a);
            case 4 -> check("text", house.text(a = piece(), b = tongue(), c = what(20)),
                    model.text(a, b, c), a, b, c);
            case 5 -> check("text", house.text(a = piece(), b = tongue(), c = small(3)),
                    model.text(a, b, c), a, b, c);
            case 6 -> check("fault", house.fault(a = piece(), b = tongue()), model.fault(a, b), a, b);
            case 7 -> check("nearest", house.nearest(a = piece(), b = tongue(), c = small(3)),
                    model.nearest(a, b, c), a, b, c);
            case 8, 9 -> check("memory", house.memory(a = entry(), b = small(32)), model.memory(a, b), a, b);
            case 10 -> check("effort", house.effort(a = piece(), b = tongue()), model.effort(a, b), a, b);
            case 11 -> check("plan", house.plan(a = tongue(), b = piece()), model.plan(a, b), a, b);
            case 12 -> check("planned", house.planned(a = tongue(), b = small(3)), model.planned(a, b), a, b);
            case 13 -> check("release", house.release(a = tongue(), b = small(66)), model.release(a, b), a, b);
            default -> check("many", house.many(a = small(13)), model.many(a), a);
        }
    }

    /** Mostly 0 to n, at times any number. */
    private int small(int n) {
        int which = random.nextInt(40);
        return which == 0 ? ODD[random.nextInt(ODD.length)] : random.nextInt(n + 1);
    }

    /** Mostly such a number as asks for a sign. */
    private int what(int n) {
        return random.nextBoolean() ? small(n) : 10 + random.nextInt(n - 9);
    }

    private int entry() {
        return random.nextInt(12) == 0 ? small(20) : random.nextInt(Math.max(1, model.many(5)));
    }

    private int piece() {
        return random.nextInt(12) == 0 ? small(9) : random.nextInt(Math.max(1, model.many(0)));
    }

    private int tongue() {
        return random.nextInt(12) == 0 ? small(3) : random.nextInt(3) / 2;
    }

    private int hand() {
        return random.nextInt(12) == 0 ? small(5) : random.nextInt(Math.max(1, model.many(3)));
    }

    private int word() {
        return random.nextInt(12) == 0 ? SIGN_EDGES[random.nextInt(SIGN_EDGES.length)] : random.nextInt(words + 2);
    }

    private int ownWord() {
        return random.nextInt(12) == 0 ? SIGN_EDGES[random.nextInt(SIGN_EDGES.length)] : 200 + random.nextInt(3);
    }

    private int sign() {
        return random.nextInt(8) == 0 ? SIGN_EDGES[random.nextInt(SIGN_EDGES.length)] : random.nextInt(5) * 50;
    }

    private void check(String call, int got, int want, int... arguments) {
        if (wrong) {
            return;
        }
        wrong = got != want;
        told.addLast(call + java.util.Arrays.toString(arguments) + " answered " + got
                + (wrong ? ", due is " + want : ""));
        if (told.size() > TOLD) {
            told.removeFirst();
        }
    }
}
