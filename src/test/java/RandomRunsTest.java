import java.util.Random;

/** Runs of 512 calls from fixed seeds, each answer compared with that of the plain model. */
public final class RandomRunsTest {
    private static final int RUNS = 6000;
    private static final int CALLS = 512;
    private static final int[] ODD = {
        -1, -2, 4, 5, 6, 7, 24, 25, 50, 51, 59, 60, 61, Integer.MIN_VALUE, Integer.MAX_VALUE,
    };
    /** How often each of the twenty calls is drawn, in the order of the document's face. */
    private static final int[][] MOODS = {
        {4, 3, 3, 1, 1, 1, 1, 4, 2, 2, 2, 2, 2, 2, 2, 1, 1, 1, 1, 1},
        {9, 3, 4, 1, 1, 1, 3, 9, 1, 1, 1, 1, 1, 1, 0, 1, 1, 1, 1, 1},
        {9, 6, 6, 1, 2, 2, 2, 0, 0, 0, 0, 0, 0, 0, 0, 0, 0, 1, 0, 3},
        {1, 0, 1, 0, 0, 0, 1, 9, 6, 6, 6, 1, 1, 2, 1, 0, 1, 1, 1, 0},
        {3, 1, 3, 0, 1, 0, 2, 9, 0, 0, 0, 2, 3, 3, 3, 2, 1, 1, 2, 0},
    };
    private static final Checks CHECKS = new Checks("RandomRunsTest");

    private final BindingKernel kernel = new BindingKernel();
    private final PlainModel model = new PlainModel();
    private final Random random;
    private final int[] mood;
    private final int oddOneIn;
    private final int longestPass;

    private RandomRunsTest(int seed) {
        random = new Random(seed);
        mood = MOODS[seed % MOODS.length];
        oddOneIn = seed % 3 == 0 ? 6 : 60;
        longestPass = seed % 4 == 0 ? 52 : 6;
    }

    public static void main(String[] args) {
        int waits = 0;
        for (int seed = 0; seed < RUNS; seed++) {
            RandomRunsTest run = new RandomRunsTest(seed);
            run.goThrough(seed);
            waits += run.model.waitsOfApplications;
        }
        CHECKS.due("applications waited in many runs", waits > RUNS, true);
        CHECKS.end();
    }

    private void goThrough(int seed) {
        for (int call = 0; call < CALLS; call++) {
            if (!sameAnswer(seed, call)) {
                return;
            }
        }
    }

    /** After the first other answer a run tells nothing more. */
    private boolean sameAnswer(int seed, int call) {
        int which = drawCall();
        int environment = environmentFor(which);
        int b = drawSecond(which, environment);
        int c = drawThird(which, environment, b);
        int word = random.nextInt(5) == 0 ? random.nextInt() : random.nextInt(9);
        boolean flag = random.nextBoolean();
        int got = answerOfKernel(which, environment, b, c, word, flag);
        int want = answerOfModel(which, environment, b, c, word, flag);
        CHECKS.due("run " + seed + ", call " + call + ": method " + which + " with " + environment
                + ", " + b + ", " + c + ", " + word + ", " + flag, got, want);
        return got == want;
    }

    private int drawCall() {
        int sum = 0;
        for (int weight : mood) {
            sum += weight;
        }
        int left = random.nextInt(sum);
        int which = 0;
        while (left >= mood[which]) {
            left -= mood[which];
            which++;
        }
        return which;
    }

    private boolean drawOdd() {
        return random.nextInt(oddOneIn) == 0;
    }

    private int odd() {
        return ODD[random.nextInt(ODD.length)];
    }

    private int environmentFor(int which) {
        if (drawOdd()) {
            return random.nextBoolean() ? odd() : random.nextInt(4);
        }
        if (which >= 17) {
            return random.nextInt(4);
        }
        return which < 7 ? random.nextInt(2) : 2 + random.nextInt(2);
    }

    private int drawSecond(int which, int environment) {
        if (drawOdd()) {
            return odd();
        }
        if (which < 7) {
            return random.nextInt(6);
        }
        return which == 14 ? random.nextInt(longestPass) : drawTicket(environment);
    }

    private int drawThird(int which, int environment, int name) {
        if (drawOdd()) {
            return odd();
        }
        if (which == 10) {
            return drawTicket(environment);
        }
        return which < 7 ? random.nextInt(Math.max(1, model.length(environment, name) + 1))
                : random.nextInt(4);
    }

    /** Mostly a ticket that there was. */
    private int drawTicket(int guest) {
        int count = 0;
        while (model.state(guest, count) != -1) {
            count++;
        }
        return random.nextInt(count + 1);
    }

    private int answerOfKernel(int which, int a, int b, int c, int word, boolean flag) {
        switch (which) {
            case 0: return asInt(kernel.append(a, b, word));
            case 1: return asInt(kernel.write(a, b, c, word));
            case 2: return kernel.read(a, b, c);
            case 3: return kernel.length(a, b);
            case 4: return kernel.erase(a, b);
            case 5: return kernel.sync(a);
            case 6: return asInt(kernel.squeeze(a));
            case 7: return kernel.bind(a, flag);
            case 8: return asInt(kernel.put(a, b, c, word));
            case 9: return kernel.get(a, b, c);
            case 10: return asInt(kernel.copy(a, b, c));
            case 11: return asInt(kernel.release(a, b));
            case 12: return asInt(kernel.ask(a, b));
            case 13: return kernel.state(a, b);
            case 14: return kernel.pass(b);
            case 15: return kernel.time();
            case 16: return kernel.free(flag);
            case 17: return kernel.held(a, flag);
            case 18: return kernel.losses(a);
            default: return kernel.transfers(flag);
        }
    }

    private int answerOfModel(int which, int a, int b, int c, int word, boolean flag) {
        switch (which) {
            case 0: return asInt(model.append(a, b, word));
            case 1: return asInt(model.write(a, b, c, word));
            case 2: return model.read(a, b, c);
            case 3: return model.length(a, b);
            case 4: return model.erase(a, b);
            case 5: return model.sync(a);
            case 6: return asInt(model.squeeze(a));
            case 7: return model.bind(a, flag);
            case 8: return asInt(model.put(a, b, c, word));
            case 9: return model.get(a, b, c);
            case 10: return asInt(model.copy(a, b, c));
            case 11: return asInt(model.release(a, b));
            case 12: return asInt(model.ask(a, b));
            case 13: return model.state(a, b);
            case 14: return model.pass(b);
            case 15: return model.time();
            case 16: return model.free(flag);
            case 17: return model.held(a, flag);
            case 18: return model.losses(a);
            default: return model.transfers(flag);
        }
    }

    private static int asInt(boolean answer) {
        return answer ? 1 : 0;
    }
}
