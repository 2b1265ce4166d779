/** Boundary cases that the document names of an object's calls, the time and the counts. */
public final class CountBoundsTest {
    private static final int NONE = BindingKernel.NONE;
    private static final int MIN = Integer.MIN_VALUE;
    private static final int MAX = Integer.MAX_VALUE;
    private static final int[] NO_ENVIRONMENTS = {-1, 4, 5, MIN, MAX};
    private static final int[] NO_PASSES = {0, -1, 51, 52, -50, 100, MIN, MIN + 1, MAX - 1, MAX};
    private static final Checks CHECKS = new Checks("CountBoundsTest");

    public static void main(String[] args) {
        passTakesOneToFifty();
        passRefusesAllElse();
        passCountsTheTakenOnes();
        timeStandsStillOtherwise();
        freeFromFullToEmpty();
        heldByEachEnvironment();
        lossesOfEachEnvironment();
        applicationsHaveNoLosses();
        transfersOfBothApplications();
        wrongEnvironments();
        theLastOf512Calls();
        theOrderOfUseAfter510Calls();
        noCallThrowsAfterTheLast();
        CHECKS.end();
    }

    private static void passTakesOneToFifty() {
        CHECKS.about("NONE when n is not 1 .. 50");
        BindingKernel x = new BindingKernel();
        int time = 0;
        for (int n = 1; n <= 50; n++) {
            CHECKS.due("pass(" + n + ")", x.pass(n), 0);
            time += n;
            CHECKS.due("time", x.time(), time);
        }
    }

    private static void passRefusesAllElse() {
        CHECKS.about("NONE when n is not 1 .. 50");
        BindingKernel x = Scenes.withBindings(1, 1, 0, 0);
        x.ask(2, 0);
        x.pass(4);
        x.ask(2, 1);
        for (int n : NO_PASSES) {
            CHECKS.due("pass(" + n + ")", x.pass(n), NONE);
            CHECKS.due("time", x.time(), 4);
            CHECKS.due("state", x.state(2, 0), 3);
        }
        CHECKS.due("pass(1)", x.pass(1), 1);
        CHECKS.due("state", x.state(2, 1), 3);
    }

    private static void passCountsTheTakenOnes() {
        CHECKS.about("the number of bindings that the kernel took");
        for (int n = 1; n <= 50; n++) {
            BindingKernel x = Scenes.withBindings(2, 2, 2, 2);
            x.ask(2, 0);
            x.ask(3, 3);
            x.ask(2, 3);
            x.release(2, 3);
            CHECKS.due("pass(" + n + ")", x.pass(n), n < 5 ? 0 : 2);
            CHECKS.due("free frames", x.free(false), n < 5 ? 8 : 9);
            CHECKS.due("free blocks", x.free(true), n < 5 ? 21 : 22);
        }
    }

    private static void timeStandsStillOtherwise() {
        CHECKS.about("The time.");
        BindingKernel x = Scenes.withBindings(6, 12, 0, 0);
        CHECKS.due("at first", x.time(), 0);
        Scenes.fill(x, 0, 0, 24);
        Scenes.fill(x, 1, 0, 8);
        x.ask(2, 0);
        x.release(2, 0);
        x.ask(2, 1);
        x.sync(0);
        x.squeeze(0);
        x.erase(0, 0);
        CHECKS.due("after calls that don't wait", x.time(), 0);
        Scenes.bindMany(x, 3, false, 5);
        CHECKS.due("time", x.time(), 0);
        CHECKS.due("the one asked for is still live", x.state(2, 1), 3);
    }

    private static void freeFromFullToEmpty() {
        CHECKS.about("How many blocks (true) or frames (false) are free.");
        for (boolean block : Scenes.KINDS) {
            int size = Scenes.sizeOf(block);
            BindingKernel x = new BindingKernel();
            for (int bound = 0; bound <= size; bound++) {
                CHECKS.due("free with " + bound + " bound", x.free(block), size - bound);
                CHECKS.due("free of the other kind", x.free(!block), Scenes.sizeOf(!block));
                x.bind(2 + bound % 2, block);
            }
            CHECKS.due("free when full", x.free(block), 0);
            for (int ended = 0; ended < size; ended++) {
                x.release(2 + ended % 2, ended / 2);
                CHECKS.due("free with " + ended + " ended", x.free(block), ended + 1);
            }
        }
    }

    private static void heldByEachEnvironment() {
        CHECKS.about("How many blocks (true) or frames (false) an environment holds.");
        BindingKernel x = new BindingKernel();
        Scenes.fill(x, 0, 0, 24);
        Scenes.fill(x, 1, 1, 5);
        Scenes.bindMany(x, 2, false, 4);
        Scenes.bindMany(x, 3, true, 7);
        int[] frames = {3, 2, 4, 0};
        int[] blocks = {6, 2, 0, 7};
        for (int environment = 0; environment < 4; environment++) {
            CHECKS.due("frames of " + environment, x.held(environment, false), frames[environment]);
            CHECKS.due("blocks of " + environment, x.held(environment, true), blocks[environment]);
        }
        x.ask(2, 0);
        CHECKS.due("one that is asked for is held", x.held(2, false), 4);
        x.pass(5);
        CHECKS.due("one that was taken is not", x.held(2, false), 3);
        x.release(3, 0);
        CHECKS.due("one that was given back is not", x.held(3, true), 6);
        CHECKS.due("nor is it another kind's", x.held(3, false), 0);
    }

    private static void lossesOfEachEnvironment() {
        CHECKS.about("The losses of an environment");
        BindingKernel x = Scenes.withBindings(3, 1, 1, 1);
        for (int ticket = 0; ticket < 4; ticket++) {
            x.ask(2, ticket);
        }
        x.ask(3, 0);
        x.release(2, 2);
        x.pass(4);
        CHECKS.due("losses of 2 before the deadline", x.losses(2), 0);
        x.pass(1);
        int[] losses = {0, 0, 3, 1};
        for (int environment = 0; environment < 4; environment++) {
            CHECKS.due("losses of " + environment, x.losses(environment), losses[environment]);
        }
        x.release(3, 1);
        CHECKS.due("a release is no loss", x.losses(3), 1);
    }

    private static void applicationsHaveNoLosses() {
        CHECKS.about("always 0 for an application");
        BindingKernel x = Scenes.withKind(false, 12, 0);
        for (int app = 0; app < 2; app++) {
            Scenes.fill(x, app, 0, 12);
            x.squeeze(app);
            x.squeeze(app);
            x.erase(app, 0);
            CHECKS.due("losses of " + app, x.losses(app), 0);
        }
        x.pass(50);
        CHECKS.due("losses of 0", x.losses(0), 0);
        CHECKS.due("losses of 1", x.losses(1), 0);
        CHECKS.due("losses of 2", x.losses(2), 3);
    }

    private static void transfersOfBothApplications() {
        CHECKS.about("How often a part was stored (true) or loaded (false) by the library, "
                + "for both applications together.");
        BindingKernel x = Scenes.withBindings(1, 1, 0, 0);
        CHECKS.due("loads at first", x.transfers(false), 0);
        CHECKS.due("stores at first", x.transfers(true), 0);
        x.copy(2, 0, 1);
        x.copy(2, 1, 0);
        CHECKS.due("a guest's copies are no loads", x.transfers(false), 0);
        CHECKS.due("nor stores", x.transfers(true), 0);
        for (int app = 0; app < 2; app++) {
            for (int name = 0; name < 4; name++) {
                Scenes.fill(x, app, name, 1);
                CHECKS.due("loads", x.transfers(false), 4 * app + name + 1);
            }
            CHECKS.due("stores", x.transfers(true), app + 1);
        }
        x.sync(0);
        CHECKS.due("stores by sync", x.transfers(true), 5);
        x.squeeze(1);
        CHECKS.due("stores by squeeze", x.transfers(true), 6);
        x.erase(1, 3);
        CHECKS.due("stores by erase", x.transfers(true), 6);
        CHECKS.due("loads at last", x.transfers(false), 8);
    }

    private static void wrongEnvironments() {
        CHECKS.about("NONE when it is not 0 .. 3.");
        BindingKernel x = Scenes.withBindings(1, 1, 1, 1);
        for (int environment : NO_ENVIRONMENTS) {
            CHECKS.due("frames of " + environment, x.held(environment, false), NONE);
            CHECKS.due("blocks of " + environment, x.held(environment, true), NONE);
            CHECKS.due("losses of " + environment, x.losses(environment), NONE);
        }
        for (int environment = 0; environment < 4; environment++) {
            CHECKS.due("frames of " + environment, x.held(environment, false), environment / 2);
            CHECKS.due("blocks of " + environment, x.held(environment, true), environment / 2);
            CHECKS.due("losses of " + environment, x.losses(environment), 0);
        }
    }

    private static void theLastOf512Calls() {
        CHECKS.about("An object is used for at most 512 calls after it has been made");
        BindingKernel x = new BindingKernel();
        for (int call = 1; call <= 511; call++) {
            x.pass(50);
        }
        CHECKS.due("time, the 512th call", x.time(), 511 * 50);
        BindingKernel y = new BindingKernel();
        for (int call = 1; call <= 508; call++) {
            y.pass(50);
        }
        y.bind(3, false);
        y.ask(3, 0);
        CHECKS.due("pass, the 511th call", y.pass(4), 0);
        CHECKS.due("pass, the 512th call", y.pass(1), 1);
    }

    private static void theOrderOfUseAfter510Calls() {
        CHECKS.about("An object is used for at most 512 calls after it has been made");
        BindingKernel x = Scenes.withFiles(0, 4);
        // withFiles makes two calls for a file; files 1 to 3 lie in frames now.
        for (int call = 9; call <= 505; call++) {
            x.write(0, 1 + call % 3, 0, call);
        }
        x.read(0, 2, 0);
        x.read(0, 1, 0);
        int loads = x.transfers(false);
        x.read(0, 0, 0);
        x.read(0, 2, 0);
        x.read(0, 1, 0);
        CHECKS.due("loads, the 512th call", x.transfers(false), loads + 1);
    }

    private static void noCallThrowsAfterTheLast() {
        CHECKS.about("nothing about an object after its 512th call");
        int[] odd = {MIN, -1, 0, 1, 2, 3, 4, 5, 6, 50, 59, 60, MAX};
        BindingKernel x = new BindingKernel();
        int made = 0;
        for (int round = 0; round < 12; round++) {
            for (int a : odd) {
                for (int b : odd) {
                    for (int c : odd) {
                        callAll(x, a, b, c, (round + a + b + c) % 2 == 0);
                        made++;
                    }
                }
            }
        }
        CHECKS.due("rounds without an exception", made, 12 * 13 * 13 * 13);
    }

    private static void callAll(BindingKernel x, int a, int b, int c, boolean flag) {
        x.append(a, b, c);
        x.write(a, b, c, c);
        x.read(a, b, c);
        x.length(a, b);
        x.bind(a, flag);
        x.put(a, b, c, c);
        x.get(a, b, c);
        x.copy(a, b, c);
        x.ask(a, b);
        x.state(a, b);
        x.pass(c);
        x.time();
        x.free(flag);
        x.held(a, flag);
        x.losses(a);
        x.transfers(flag);
        if (c == 50) {
            x.sync(a);
            x.squeeze(b);
            x.erase(a, b);
            x.release(a, b);
        }
    }
}
