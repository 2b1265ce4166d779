import java.util.function.Consumer;
import java.util.function.Supplier;

/** Boundary cases of the sentences on opening a part: which frame was used longest ago. */
public final class FrameOrderTest {
    private static final int[][] ORDERS = {
        {0, 1, 2}, {0, 2, 1}, {1, 0, 2}, {1, 2, 0}, {2, 0, 1}, {2, 1, 0},
    };
    private static final Checks CHECKS = new Checks("FrameOrderTest");

    public static void main(String[] args) {
        for (int app = 0; app < 2; app++) {
            for (int[] order : ORDERS) {
                readsCountAsUse(app, order);
                writesCountAsUse(app, order);
                appendsCountAsUse(app, order);
                whatOpensNothingIsNoUse(app, order);
                syncIsNoUse(app, order);
                squeezeGivesBackInOrder(app, order);
                eraseKeepsTheOrderOfTheOthers(app, order);
            }
        }
        threeFramesAreNotMore();
        fewerThanThreeClaimOne();
        aLoadedPartCountsAsUsedNow();
        aFrameIsStoredOnlyIfChanged();
        theOldPartLiesInNoFrame();
        CHECKS.end();
    }

    /** Files 0 to 2, a word each, lie in the three frames and were used in the given order. */
    private static BindingKernel usedInOrder(int app, int[] order) {
        BindingKernel x = Scenes.withFiles(app, 3);
        for (int name : order) {
            x.read(app, name, 0);
        }
        return x;
    }

    /** Looking opens the part, so that only one look at an object tells the truth. */
    private static boolean liesInAFrame(BindingKernel x, int app, int name) {
        int loads = x.transfers(false);
        x.read(app, name, 0);
        return x.transfers(false) == loads;
    }

    /** Which of the files 0 to 2 lie in no frame, each looked at in an object of its own. */
    private static void outOfFrames(String when, int app, Supplier<BindingKernel> scene, int... names) {
        for (int name = 0; name < 3; name++) {
            boolean out = false;
            for (int each : names) {
                out |= each == name;
            }
            CHECKS.due("file " + name + " lies in a frame " + when,
                    liesInAFrame(scene.get(), app, name), !out);
        }
    }

    private static BindingKernel then(BindingKernel x, Consumer<BindingKernel> more) {
        more.accept(x);
        return x;
    }

    private static void openThree(BindingKernel x, int app) {
        CHECKS.due("append to file 3", x.append(app, 3, 1), true);
        CHECKS.due("frames", x.held(app, false), 3);
    }

    private static void readsCountAsUse(int app, int[] order) {
        CHECKS.about("if the part lies in a frame of the application, that frame counts as used now");
        outOfFrames("after one more part", app,
                () -> then(usedInOrder(app, order), x -> openThree(x, app)), order[0]);
        outOfFrames("after two more parts", app, () -> then(usedInOrder(app, order), x -> {
            openThree(x, app);
            x.append(app, 4, 1);
        }), order[0], order[1]);
        outOfFrames("after three more parts", app, () -> then(usedInOrder(app, order), x -> {
            openThree(x, app);
            x.append(app, 4, 1);
            x.append(app, 5, 1);
        }), 0, 1, 2);
    }

    private static void writesCountAsUse(int app, int[] order) {
        CHECKS.about("if the part lies in a frame of the application, that frame counts as used now");
        outOfFrames("after writes in order", app, () -> then(Scenes.withFiles(app, 3), x -> {
            for (int name : order) {
                x.write(app, name, 0, 5);
            }
            openThree(x, app);
        }), order[0]);
    }

    private static void appendsCountAsUse(int app, int[] order) {
        CHECKS.about("if the part lies in a frame of the application, that frame counts as used now");
        outOfFrames("after appends in order", app, () -> then(Scenes.withFiles(app, 3), x -> {
            for (int name : order) {
                x.append(app, name, 5);
            }
            openThree(x, app);
        }), order[0]);
    }

    private static void whatOpensNothingIsNoUse(int app, int[] order) {
        CHECKS.about("0, with nothing opened");
        outOfFrames("after calls that open nothing", app, () -> then(usedInOrder(app, order), x -> {
            x.read(app, order[0], 1);
            x.write(app, order[0], 1, 5);
            x.write(app, order[0], -1, 5);
            x.length(app, order[0]);
            x.read(app, order[0], Integer.MAX_VALUE);
            x.read(1 - app, order[0], 0);
            openThree(x, app);
        }), order[0]);
    }

    private static void syncIsNoUse(int app, int[] order) {
        CHECKS.about("which frame was used when does not change");
        outOfFrames("after sync", app, () -> then(usedInOrder(app, order), x -> {
            CHECKS.due("sync", x.sync(app), 3);
            openThree(x, app);
        }), order[0]);
        outOfFrames("after sync of one changed frame", app, () -> then(usedInOrder(app, order), x -> {
            x.sync(app);
            x.write(app, order[2], 0, 5);
            CHECKS.due("sync", x.sync(app), 1);
            openThree(x, app);
        }), order[0]);
    }

    private static void squeezeGivesBackInOrder(int app, int[] order) {
        CHECKS.about("the frame that was used longest ago is stored if it was changed .. and is given back");
        outOfFrames("after one squeeze", app,
                () -> then(usedInOrder(app, order), x -> x.squeeze(app)), order[0]);
        outOfFrames("after two squeezes", app, () -> then(usedInOrder(app, order), x -> {
            x.squeeze(app);
            x.squeeze(app);
        }), order[0], order[1]);
        outOfFrames("after a squeeze and two more parts", app, () -> then(usedInOrder(app, order), x -> {
            x.squeeze(app);
            openThree(x, app);
            x.append(app, 4, 1);
        }), order[0], order[1]);
    }

    private static void eraseKeepsTheOrderOfTheOthers(int app, int[] order) {
        CHECKS.about("frames in which its parts lie .. are given back");
        for (int erased = 0; erased < 3; erased++) {
            int name = order[erased];
            int next = erased == 0 ? order[1] : order[0];
            // The erased file has no word left to look for, so that it always counts as lying there.
            outOfFrames("after erase of " + name, app, () -> then(usedInOrder(app, order), x -> {
                x.erase(app, name);
                openThree(x, app);
                x.append(app, 4, 1);
            }), next);
        }
    }

    private static void threeFramesAreNotMore() {
        CHECKS.about("if the application holds three frames, the frame .. is taken for the new part");
        BindingKernel x = Scenes.withFiles(0, 6);
        CHECKS.due("frames", x.held(0, false), 3);
        CHECKS.due("free frames", x.free(false), 9);
        CHECKS.due("loads", x.transfers(false), 6);
        CHECKS.due("stores", x.transfers(true), 3);
        BindingKernel full = Scenes.withFiles(0, 3);
        Scenes.bindMany(full, 2, false, 9);
        CHECKS.due("append when no frame is free", full.append(0, 3, 1), true);
        CHECKS.due("it does not wait", full.time(), 0);
        CHECKS.due("nothing is taken", full.pass(50), 0);
    }

    private static void fewerThanThreeClaimOne() {
        CHECKS.about("if it holds fewer, it claims a frame");
        for (int left = 0; left < 3; left++) {
            BindingKernel x = Scenes.withFiles(1, 3);
            for (int i = left; i < 3; i++) {
                x.squeeze(1);
            }
            int stores = x.transfers(true);
            CHECKS.due("read", x.read(1, 0, 0), Scenes.wordOf(0, 0));
            CHECKS.due("frames", x.held(1, false), left + 1);
            CHECKS.due("nothing was stored for it", x.transfers(true), stores);
            Scenes.bindMany(x, 3, false, 12 - left - 1);
            CHECKS.due("append to a new file", x.append(1, 3, 7), true);
            CHECKS.due("time, with " + (left + 1) + " frames before", x.time(), left == 2 ? 0 : 5);
            CHECKS.due("frames", x.held(1, false), Math.min(3, left + 2));
        }
    }

    private static void aLoadedPartCountsAsUsedNow() {
        CHECKS.about("the frame counts as used now");
        int[] order = {0, 1, 2};
        outOfFrames("when file 0 was loaded again", 0, () -> then(usedInOrder(0, order), x -> {
            x.squeeze(0);
            x.read(0, 0, 0);
            openThree(x, 0);
        }), 1);
        outOfFrames("when file 0 came back in another's frame", 0, () -> then(usedInOrder(0, order), x -> {
            openThree(x, 0);
            x.read(0, 0, 0);
            x.append(0, 4, 1);
        }), 1, 2);
    }

    private static void aFrameIsStoredOnlyIfChanged() {
        CHECKS.about("is STORED if it was changed since its part was loaded into it or stored");
        BindingKernel x = Scenes.withFiles(0, 4);
        CHECKS.due("stores of file 0, appended to", x.transfers(true), 1);
        x.sync(0);
        CHECKS.due("stores after sync", x.transfers(true), 4);
        CHECKS.due("file 0 comes back", x.read(0, 0, 0), Scenes.wordOf(0, 0));
        CHECKS.due("stores: file 1 was stored by sync", x.transfers(true), 4);
        x.write(0, 2, 0, 5);
        x.read(0, 3, 0);
        x.read(0, 1, 0);
        CHECKS.due("stores: file 0 was loaded and only read", x.transfers(true), 4);
        x.read(0, 0, 0);
        CHECKS.due("stores: file 2 was written", x.transfers(true), 5);
        CHECKS.due("file 2 comes back", x.read(0, 2, 0), 5);
        CHECKS.due("stores: file 3 was stored by sync", x.transfers(true), 5);
        CHECKS.due("loads", x.transfers(false), 8);
    }

    private static void theOldPartLiesInNoFrame() {
        CHECKS.about("the old part lying in no frame any more");
        BindingKernel x = new BindingKernel();
        Scenes.fill(x, 1, 0, 16);
        for (int round = 0; round < 3; round++) {
            for (int part = 0; part < 4; part++) {
                int loads = x.transfers(false);
                CHECKS.due("read", x.read(1, 0, 4 * part), Scenes.wordOf(0, 4 * part));
                CHECKS.due("loads", x.transfers(false), loads + 1);
                CHECKS.due("read", x.read(1, 0, 4 * part + 3), Scenes.wordOf(0, 4 * part + 3));
                CHECKS.due("loads", x.transfers(false), loads + 1);
            }
        }
    }
}
