/** Promises 16 to 21: the time and the counts. */
public final class CountsTest {
    private static final int NONE = BindingKernel.NONE;
    private static final int[] NO_ENVIRONMENTS = {-1, 4, 5, Integer.MIN_VALUE, Integer.MAX_VALUE};
    private static final Checks CHECKS = new Checks("CountsTest");

    public static void main(String[] args) {
        passMovesTheTime();
        passCountsWhatWasTaken();
        passOutsideItsBoundsMovesNothing();
        freeAndHeldAddUp();
        lossesBelongToTheirGuest();
        transfersCountBothApplications();
        CHECKS.end();
    }

    private static void passMovesTheTime() {
        BindingKernel x = new BindingKernel();
        CHECKS.due("pass(1)", x.pass(1), 0);
        CHECKS.due("time", x.time(), 1);
        CHECKS.due("pass(50)", x.pass(50), 0);
        CHECKS.due("time", x.time(), 51);
        CHECKS.due("asking for the time does not move it", x.time(), 51);
        for (int i = 0; i < 400; i++) {
            x.pass(50);
        }
        CHECKS.due("time after many passes", x.time(), 20051);
        x.bind(2, false);
        x.ask(2, 0);
        CHECKS.due("late, up to one before the deadline", x.pass(4), 0);
        CHECKS.due("late, at the deadline", x.pass(1), 1);
    }

    private static void passCountsWhatWasTaken() {
        BindingKernel x = new BindingKernel();
        for (int i = 0; i < 3; i++) {
            x.bind(2, false);
            x.bind(2, true);
            x.bind(3, false);
            x.bind(3, true);
        }
        for (int ticket = 0; ticket < 4; ticket++) {
            x.ask(2, ticket);
            x.ask(3, ticket);
        }
        x.pass(1);
        x.ask(2, 5);
        x.release(3, 0);
        CHECKS.due("all of one deadline", x.pass(4), 7);
        CHECKS.due("the later one", x.pass(50), 1);
        CHECKS.due("nothing more", x.pass(50), 0);
        CHECKS.due("losses of 2", x.losses(2), 5);
        CHECKS.due("losses of 3", x.losses(3), 3);
        CHECKS.due("free frames", x.free(false), 10);
        CHECKS.due("free blocks", x.free(true), 23);
        BindingKernel y = new BindingKernel();
        y.bind(3, true);
        y.ask(3, 0);
        CHECKS.due("past the deadline at once", y.pass(50), 1);
        CHECKS.due("time is not that of the deadline", y.time(), 50);
    }

    private static void passOutsideItsBoundsMovesNothing() {
        BindingKernel x = new BindingKernel();
        x.bind(2, true);
        x.ask(2, 0);
        int[] wrong = {0, -1, 51, 52, -50, Integer.MIN_VALUE, Integer.MAX_VALUE};
        for (int n : wrong) {
            CHECKS.due("pass(" + n + ")", x.pass(n), NONE);
            CHECKS.due("time after pass(" + n + ")", x.time(), 0);
            CHECKS.due("state after pass(" + n + ")", x.state(2, 0), 3);
        }
    }

    private static void freeAndHeldAddUp() {
        BindingKernel x = new BindingKernel();
        for (int i = 0; i < 5; i++) {
            x.append(0, 0, i);
        }
        x.append(1, 3, 1);
        x.bind(2, false);
        x.bind(3, true);
        x.bind(3, true);
        x.bind(3, true);
        int[] frames = {2, 1, 1, 0};
        int[] blocks = {2, 1, 0, 3};
        for (int environment = 0; environment < 4; environment++) {
            CHECKS.due("frames of " + environment, x.held(environment, false), frames[environment]);
            CHECKS.due("blocks of " + environment, x.held(environment, true), blocks[environment]);
        }
        CHECKS.due("free frames", x.free(false), 8);
        CHECKS.due("free blocks", x.free(true), 18);
        for (int environment : NO_ENVIRONMENTS) {
            CHECKS.due("frames of " + environment, x.held(environment, false), NONE);
            CHECKS.due("blocks of " + environment, x.held(environment, true), NONE);
            CHECKS.due("losses of " + environment, x.losses(environment), NONE);
        }
        x.erase(0, 0);
        CHECKS.due("free frames after erase", x.free(false), 10);
        CHECKS.due("free blocks after erase", x.free(true), 20);
    }

    private static void lossesBelongToTheirGuest() {
        BindingKernel x = new BindingKernel();
        x.append(0, 0, 1);
        x.squeeze(0);
        CHECKS.due("a squeeze is no loss", x.losses(0), 0);
        for (int i = 0; i < 3; i++) {
            x.bind(3, i == 1);
            x.ask(3, i);
        }
        x.release(3, 2);
        CHECKS.due("losses before the deadline", x.losses(3), 0);
        x.pass(5);
        CHECKS.due("losses of 3", x.losses(3), 2);
        CHECKS.due("losses of 2", x.losses(2), 0);
        CHECKS.due("losses of 0", x.losses(0), 0);
        CHECKS.due("losses of 1", x.losses(1), 0);
        x.pass(5);
        CHECKS.due("losses are counted once", x.losses(3), 2);
    }

    private static void transfersCountBothApplications() {
        BindingKernel x = new BindingKernel();
        x.append(0, 0, 1);
        CHECKS.due("loads", x.transfers(false), 1);
        CHECKS.due("stores", x.transfers(true), 0);
        x.append(1, 0, 1);
        CHECKS.due("loads", x.transfers(false), 2);
        x.sync(1);
        CHECKS.due("stores by sync", x.transfers(true), 1);
        x.squeeze(0);
        CHECKS.due("stores by squeeze", x.transfers(true), 2);
        x.squeeze(1);
        CHECKS.due("no store of what did not change", x.transfers(true), 2);
        x.read(1, 0, 0);
        CHECKS.due("loads by read", x.transfers(false), 3);
        x.write(0, 0, 0, 2);
        CHECKS.due("loads by write", x.transfers(false), 4);
        x.erase(0, 0);
        CHECKS.due("loads after erase", x.transfers(false), 4);
        CHECKS.due("stores after erase", x.transfers(true), 2);
    }
}
