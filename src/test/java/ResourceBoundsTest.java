/** Boundary cases that 'Terms' names of resources, of time and of deadlines: a method a sentence. */
public final class ResourceBoundsTest {
    private static final Checks CHECKS = new Checks("ResourceBoundsTest");

    public static void main(String[] args) {
        for (boolean block : Scenes.KINDS) {
            thereAreTwelveFramesAndTwentyFourBlocks(block);
            allCanBeBoundToAllTogether(block);
            aBindingThatIsNotAskedForDoesNotEnd(block);
            aDeadlineIsFiveAfterTheAsking(block, 0);
            aDeadlineIsFiveAfterTheAsking(block, 37);
            aDeadlineOfAWaitingClaimIsFiveAfterIt(block, 0);
            aDeadlineOfAWaitingClaimIsFiveAfterIt(block, 37);
            onlyDeadlinesAboveTheTimeAreLeft(block);
        }
        aResourceHasFourWords();
        everyResourceHasWordsOfItsOwn();
        filesOfTheLastBlocksKeepTheirWords();
        wordsAreZeroAfterARelease();
        wordsAreZeroAfterATaking();
        wordsOfAFrameAreZeroAfterASqueeze();
        wordsOfAFrameAreZeroAfterAnErase();
        wordsOfABlockAreZeroAfterAnErase();
        wordsOfAllResourcesAreZero();
        aResourceIsFreeWhenItsBindingEnds();
        waitingOfAnApplicationTakesWhatIsDue();
        waitingForABlockTakesWhatIsDue();
        eachTakingIsOneLoss();
        nothingElseIsTaken();
        CHECKS.end();
    }

    private static void thereAreTwelveFramesAndTwentyFourBlocks(boolean block) {
        CHECKS.about("12 FRAMES and 24 BLOCKS");
        int size = Scenes.sizeOf(block);
        for (int guest = 2; guest < 4; guest++) {
            BindingKernel x = new BindingKernel();
            for (int bound = 0; bound < size; bound++) {
                CHECKS.due("free before bind", x.free(block), size - bound);
                CHECKS.due("bind", x.bind(guest, block), bound);
                CHECKS.due("held", x.held(guest, block), bound + 1);
            }
            CHECKS.due("free when full", x.free(block), 0);
            CHECKS.due("one more than there is", x.bind(guest, block), BindingKernel.REFUSED);
            CHECKS.due("held when full", x.held(guest, block), size);
            CHECKS.due("free of the other kind", x.free(!block), Scenes.sizeOf(!block));
        }
    }

    private static void allCanBeBoundToAllTogether(boolean block) {
        CHECKS.about("four shares are all there is");
        BindingKernel x = new BindingKernel();
        int share = Scenes.shareOf(block);
        for (int app = 0; app < 2; app++) {
            for (int name = 0; name < 6; name++) {
                Scenes.fill(x, app, name, 1);
            }
        }
        Scenes.bindMany(x, 2, block, share);
        Scenes.bindMany(x, 3, block, share);
        for (int environment = 0; environment < 4; environment++) {
            CHECKS.due("held by " + environment, x.held(environment, block), share);
        }
        CHECKS.due("free", x.free(block), 0);
        CHECKS.due("one more for guest 2", x.bind(2, block), BindingKernel.REFUSED);
        CHECKS.due("one more for guest 3", x.bind(3, block), BindingKernel.REFUSED);
        CHECKS.due("a seventh block for application 0", x.append(0, 0, 1) && x.append(0, 0, 1)
                && x.append(0, 0, 1) && x.append(0, 0, 1), false);
        CHECKS.due("nobody waited", x.time(), 0);
    }

    private static void aResourceHasFourWords() {
        CHECKS.about("each has four words (ints), 0 to 3");
        BindingKernel x = Scenes.withBindings(2, 1, 0, 0);
        int[] words = {Integer.MIN_VALUE, Integer.MAX_VALUE, -1, 1};
        for (int i = 0; i < 4; i++) {
            CHECKS.due("put of word " + i, x.put(2, 0, i, words[i]), true);
        }
        int[] noWords = {-1, 4, 5, -4, Integer.MIN_VALUE, Integer.MAX_VALUE};
        for (int i : noWords) {
            CHECKS.due("put of word " + i, x.put(2, 0, i, 7), false);
            CHECKS.due("get of word " + i, x.get(2, 0, i), 0);
        }
        x.copy(2, 0, 2);
        x.copy(2, 2, 1);
        for (int i = 0; i < 4; i++) {
            CHECKS.due("get of word " + i, x.get(2, 0, i), words[i]);
            CHECKS.due("word " + i + " by way of a block", x.get(2, 1, i), words[i]);
        }
    }

    private static void everyResourceHasWordsOfItsOwn() {
        CHECKS.about("12 FRAMES and 24 BLOCKS; each has four words");
        BindingKernel x = Scenes.withBindings(12, 24, 0, 0);
        for (int block = 12; block < 36; block++) {
            Scenes.putAll(x, 2, 0, 10 * block);
            CHECKS.due("copy to a block", x.copy(2, 0, block), true);
        }
        for (int frame = 0; frame < 12; frame++) {
            Scenes.putAll(x, 2, frame, 10 * frame);
        }
        for (int frame = 0; frame < 12; frame++) {
            frameIs(x, frame, 10 * frame);
        }
        for (int block = 12; block < 36; block++) {
            CHECKS.due("copy from a block", x.copy(2, block, 11), true);
            frameIs(x, 11, 10 * block);
        }
        frameIs(x, 10, 100);
    }

    private static void frameIs(BindingKernel x, int ticket, int first) {
        for (int i = 0; i < 4; i++) {
            CHECKS.due("word " + i + " of frame " + ticket, x.get(2, ticket, i), first + i);
        }
    }

    private static void filesOfTheLastBlocksKeepTheirWords() {
        CHECKS.about("12 FRAMES and 24 BLOCKS; each has four words");
        for (int app = 0; app < 2; app++) {
            BindingKernel x = Scenes.withBindings(9, 18, 0, 0);
            Scenes.fill(x, app, 2, 24);
            for (int i = 0; i < 24; i++) {
                CHECKS.due("word " + i, x.read(app, 2, i), Scenes.wordOf(2, i));
            }
            CHECKS.due("free frames", x.free(false), 0);
            CHECKS.due("free blocks", x.free(true), 0);
            CHECKS.due("time", x.time(), 0);
        }
    }

    /** The ticket is one of a frame. */
    private static void frameIsZero(BindingKernel x, int guest, int ticket, String when) {
        for (int i = 0; i < 4; i++) {
            CHECKS.due("word " + i + " of a frame " + when, x.get(guest, ticket, i), 0);
        }
    }

    private static void blockIsZero(BindingKernel x, int guest, int ticket, int frame, String when) {
        Scenes.putAll(x, guest, frame, 5);
        CHECKS.due("copy", x.copy(guest, ticket, frame), true);
        frameIsZero(x, guest, frame, "with a block's words " + when);
    }

    /** Guest 2 has all frames but one and all blocks, with no word 0; guest 3 has that one frame. */
    private static BindingKernel allFullOfWords() {
        BindingKernel x = Scenes.withBindings(11, 24, 1, 0);
        for (int ticket = 0; ticket < 11; ticket++) {
            Scenes.putAll(x, 2, ticket, 50);
        }
        for (int ticket = 11; ticket < 35; ticket++) {
            x.copy(2, 0, ticket);
        }
        return x;
    }

    private static void wordsAreZeroAfterARelease() {
        CHECKS.about("When it is bound, its four words become 0.");
        BindingKernel x = allFullOfWords();
        x.release(2, 4);
        frameIsZero(x, 3, x.bind(3, false), "after a release");
        x.release(2, 20);
        blockIsZero(x, 3, x.bind(3, true), 0, "after a release");
        x.release(2, 5);
        frameIsZero(x, 2, x.bind(2, false), "that its last holder binds again");
    }

    private static void wordsAreZeroAfterATaking() {
        CHECKS.about("When it is bound, its four words become 0.");
        BindingKernel x = allFullOfWords();
        x.ask(2, 4);
        x.ask(2, 20);
        CHECKS.due("both are taken", x.pass(5), 2);
        frameIsZero(x, 3, x.bind(3, false), "after a taking");
        blockIsZero(x, 3, x.bind(3, true), 0, "after a taking");
    }

    private static void wordsOfAFrameAreZeroAfterASqueeze() {
        CHECKS.about("When it is bound, its four words become 0.");
        BindingKernel x = new BindingKernel();
        Scenes.fill(x, 0, 0, 4);
        Scenes.bindMany(x, 2, false, 11);
        x.squeeze(0);
        frameIsZero(x, 3, x.bind(3, false), "after a squeeze");
    }

    private static void wordsOfAFrameAreZeroAfterAnErase() {
        CHECKS.about("When it is bound, its four words become 0.");
        BindingKernel x = new BindingKernel();
        Scenes.fill(x, 1, 0, 4);
        Scenes.bindMany(x, 2, false, 11);
        x.erase(1, 0);
        frameIsZero(x, 3, x.bind(3, false), "after an erase");
    }

    private static void wordsOfABlockAreZeroAfterAnErase() {
        CHECKS.about("When it is bound, its four words become 0.");
        BindingKernel x = new BindingKernel();
        Scenes.fill(x, 0, 0, 4);
        x.sync(0);
        Scenes.bindMany(x, 2, true, 23);
        x.erase(0, 0);
        int frame = x.bind(3, false);
        blockIsZero(x, 3, x.bind(3, true), frame, "after an erase");
    }

    private static void wordsOfAllResourcesAreZero() {
        CHECKS.about("When it is bound, its four words become 0.");
        BindingKernel x = allFullOfWords();
        for (int ticket = 0; ticket < 35; ticket++) {
            x.release(2, ticket);
        }
        for (int i = 0; i < 11; i++) {
            frameIsZero(x, 2, x.bind(2, false), "when all were given back");
        }
        for (int i = 0; i < 24; i++) {
            x.put(3, 0, 3, 5);
            x.copy(3, x.bind(3, true), 0);
            CHECKS.due("last word of block " + i, x.get(3, 0, 3), 0);
        }
    }

    private static void aBindingThatIsNotAskedForDoesNotEnd(boolean block) {
        CHECKS.about("A binding ENDS only when its holder gives the resource back or the kernel takes it");
        int size = Scenes.sizeOf(block);
        BindingKernel x = Scenes.withKind(block, size - 1, 1);
        x.ask(2, 3);
        x.pass(5);
        for (int i = 0; i < 20; i++) {
            CHECKS.due("pass", x.pass(50), 0);
        }
        for (int ticket = 0; ticket < size - 1; ticket++) {
            CHECKS.due("state of ticket " + ticket, x.state(2, ticket), ticket == 3 ? 1 : 2);
        }
        CHECKS.due("state of the other guest's", x.state(3, 0), 2);
        CHECKS.due("free", x.free(block), 1);
    }

    private static void aResourceIsFreeWhenItsBindingEnds() {
        CHECKS.about("the resource is free then");
        BindingKernel x = Scenes.withBindings(3, 3, 0, 0);
        Scenes.fill(x, 0, 0, 5);
        freeIs(x, "at first", 7, 19);
        x.release(2, 0);
        freeIs(x, "after a release of a frame", 8, 19);
        x.release(2, 5);
        freeIs(x, "after a release of a block", 8, 20);
        x.ask(2, 1);
        x.ask(2, 4);
        freeIs(x, "after asking", 8, 20);
        x.pass(5);
        freeIs(x, "after a taking of both kinds", 9, 21);
        x.squeeze(0);
        freeIs(x, "after a squeeze", 10, 21);
        x.erase(0, 0);
        freeIs(x, "after an erase", 11, 23);
    }

    private static void freeIs(BindingKernel x, String when, int frames, int blocks) {
        CHECKS.due("free frames " + when, x.free(false), frames);
        CHECKS.due("free blocks " + when, x.free(true), blocks);
    }

    private static void passTo(BindingKernel x, int time) {
        while (x.time() < time) {
            x.pass(Math.min(50, time - x.time()));
        }
    }

    private static void aDeadlineIsFiveAfterTheAsking(boolean block, int asking) {
        CHECKS.about("the time of the asking + 5");
        for (int guest = 2; guest < 4; guest++) {
            BindingKernel x = new BindingKernel();
            x.bind(guest, block);
            passTo(x, asking);
            CHECKS.due("ask", x.ask(guest, 0), true);
            for (int i = 1; i < 5; i++) {
                CHECKS.due("pass to " + i + " after the asking", x.pass(1), 0);
                CHECKS.due("state " + i + " after the asking", x.state(guest, 0), 3);
            }
            CHECKS.due("pass to 5 after the asking", x.pass(1), 1);
            CHECKS.due("state 5 after the asking", x.state(guest, 0), 1);
            CHECKS.due("losses", x.losses(guest), 1);
        }
    }

    private static void aDeadlineOfAWaitingClaimIsFiveAfterIt(boolean block, int asking) {
        CHECKS.about("the time of the asking + 5");
        BindingKernel x = Scenes.withKind(block, Scenes.sizeOf(block), 0);
        passTo(x, asking);
        CHECKS.due("claim", x.bind(3, block), BindingKernel.WAITS);
        CHECKS.due("pass to 4 after the claim", x.pass(4), 0);
        CHECKS.due("claim again", x.bind(3, block), BindingKernel.WAITS);
        CHECKS.due("pass to 5 after the first claim", x.pass(1), 1);
        BindingKernel y = Scenes.withKind(block, Scenes.sizeOf(block), 0);
        passTo(y, asking);
        CHECKS.due("append that waits", y.append(0, 0, 1), true);
        CHECKS.due("time after the append", y.time(), asking + 5);
    }

    private static void onlyDeadlinesAboveTheTimeAreLeft(boolean block) {
        CHECKS.about("whose deadline is not above the time is taken by the kernel");
        BindingKernel x = Scenes.withKind(block, 4, 1);
        x.ask(2, 0);
        x.pass(1);
        x.ask(2, 1);
        x.ask(3, 0);
        x.pass(1);
        x.ask(2, 2);
        CHECKS.due("time before", x.time(), 2);
        CHECKS.due("pass from 2 to 6 with deadlines 5, 6, 6 and 7", x.pass(4), 3);
        CHECKS.due("deadline 5 at 6", x.state(2, 0), 1);
        CHECKS.due("deadline 6 at 6", x.state(2, 1), 1);
        CHECKS.due("deadline 6 at 6, guest 3", x.state(3, 0), 1);
        CHECKS.due("deadline 7 at 6", x.state(2, 2), 3);
        CHECKS.due("no deadline", x.state(2, 3), 2);
        CHECKS.due("pass from 6 to 56", x.pass(50), 1);
        CHECKS.due("deadline 7 at 56", x.state(2, 2), 1);
        CHECKS.due("no deadline, at 56", x.state(2, 3), 2);
    }

    /** Deadlines 5 to 7 of the kind that is not waited for; the wait itself ends at 6. */
    private static void deadlinesAround(BindingKernel x, boolean waited, int first) {
        x.ask(2, first);
        x.ask(3, 0);
        x.pass(1);
        x.ask(2, first + 1);
        CHECKS.due("ask for the one that is waited for", x.ask(3, waited ? 2 : 1), true);
        x.pass(1);
        x.ask(2, first + 2);
    }

    private static void waitingOfAnApplicationTakesWhatIsDue() {
        CHECKS.about("Whenever the time has been moved, every binding that is asked for ..");
        BindingKernel x = new BindingKernel();
        Scenes.bindMany(x, 2, false, 10);
        Scenes.bindMany(x, 2, true, 4);
        Scenes.bindMany(x, 3, true, 1);
        Scenes.bindMany(x, 3, false, 2);
        deadlinesAround(x, false, 10);
        CHECKS.due("append that waits for a frame", x.append(0, 0, 1), true);
        takenAround(x, 10);
        CHECKS.due("the frame that was waited for", x.state(3, 1), 1);
        CHECKS.due("a frame that was not asked for", x.state(3, 2), 2);
    }

    private static void waitingForABlockTakesWhatIsDue() {
        CHECKS.about("Whenever the time has been moved, every binding that is asked for ..");
        BindingKernel x = new BindingKernel();
        Scenes.bindMany(x, 2, false, 4);
        Scenes.bindMany(x, 3, false, 2);
        Scenes.bindMany(x, 2, true, 22);
        Scenes.bindMany(x, 3, true, 2);
        deadlinesAround(x, true, 0);
        CHECKS.due("append that waits for a block", x.append(1, 5, 1), true);
        takenAround(x, 0);
        CHECKS.due("the block that was waited for", x.state(3, 2), 1);
        CHECKS.due("a block that was not asked for", x.state(3, 3), 2);
    }

    private static void takenAround(BindingKernel x, int first) {
        CHECKS.due("time", x.time(), 6);
        CHECKS.due("deadline 5", x.state(2, first), 1);
        CHECKS.due("deadline 5, guest 3", x.state(3, 0), 1);
        CHECKS.due("deadline 6", x.state(2, first + 1), 1);
        CHECKS.due("deadline 7", x.state(2, first + 2), 3);
        CHECKS.due("no deadline", x.state(2, first + 3), 2);
        CHECKS.due("losses of 2", x.losses(2), 2);
        CHECKS.due("losses of 3", x.losses(3), 2);
    }

    private static void eachTakingIsOneLoss() {
        CHECKS.about("its guest has one LOSS more for each");
        BindingKernel x = Scenes.withBindings(12, 12, 0, 12);
        for (int ticket = 0; ticket < 24; ticket++) {
            x.ask(2, ticket);
        }
        for (int ticket = 0; ticket < 12; ticket++) {
            x.ask(3, ticket);
        }
        CHECKS.due("losses of 2 before", x.losses(2), 0);
        CHECKS.due("all there is is taken", x.pass(5), 36);
        CHECKS.due("losses of 2", x.losses(2), 24);
        CHECKS.due("losses of 3", x.losses(3), 12);
        CHECKS.due("free frames", x.free(false), 12);
        CHECKS.due("free blocks", x.free(true), 24);
        CHECKS.due("nothing is taken twice", x.pass(50), 0);
        CHECKS.due("losses of 2 afterwards", x.losses(2), 24);
    }

    private static void nothingElseIsTaken() {
        CHECKS.about("(Nothing else is taken.)");
        BindingKernel x = Scenes.withBindings(2, 2, 2, 2);
        Scenes.fill(x, 0, 0, 24);
        Scenes.fill(x, 1, 3, 9);
        x.ask(2, 1);
        CHECKS.due("pass", x.pass(50), 1);
        int[] frames = {3, 3, 1, 2};
        int[] blocks = {6, 3, 2, 2};
        for (int environment = 0; environment < 4; environment++) {
            CHECKS.due("frames of " + environment, x.held(environment, false), frames[environment]);
            CHECKS.due("blocks of " + environment, x.held(environment, true), blocks[environment]);
            CHECKS.due("losses of " + environment, x.losses(environment), environment == 2 ? 1 : 0);
        }
    }
}
