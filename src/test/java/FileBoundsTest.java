/** Boundary cases that the document names of files, in 'Terms' and in promises 2 to 8. */
public final class FileBoundsTest {
    private static final int NONE = BindingKernel.NONE;
    private static final int MIN = Integer.MIN_VALUE;
    private static final int MAX = Integer.MAX_VALUE;
    private static final int[] NO_APPS = {-1, 2, 3, 4, MIN, MAX};
    private static final int[] NO_NAMES = {-1, 6, MIN, MAX};
    private static final int[] NEVER_WORDS = {-1, -4, -24, MIN, MIN + 1, 24, 1 << 30, MAX - 3, MAX};
    private static final Checks CHECKS = new Checks("FileBoundsTest");

    public static void main(String[] args) {
        filesAreNumberedFromZeroToFive();
        filesAreEmptyAtFirst();
        everyWordIsKept();
        aPartHasFourWords();
        aPartWithAWordHasOneBlock();
        appendNeedsABlockForTheFirstWordOfAPart();
        appendIsRefusedWithSixBlocksInOneFile();
        appendIsRefusedWithSixBlocksInSeveralFiles();
        appendAgainAfterAnErase();
        appendMakesTheFrameChanged();
        writeAndReadReachTheLastWordAndNotTheNext();
        writeAndReadOfAnEmptyFile();
        writeOfTheSameWordIsAChange();
        readIsNoChange();
        lengthGoesFromZeroToTwentyFour();
        eraseCountsTheBlocks();
        eraseStoresNothing();
        eraseGivesBackTheFramesOfItsPartsAlone();
        syncStoresNoneToThree();
        syncOfWhatWasStored();
        squeezeOfOneFrameAndOfNone();
        squeezeStoresOnlyWhatWasChanged();
        wrongApplicationsAreRefused();
        wrongNamesAreRefused();
        CHECKS.end();
    }

    private static void transfers(BindingKernel x, String when, int loads, int stores) {
        CHECKS.due("loads " + when, x.transfers(false), loads);
        CHECKS.due("stores " + when, x.transfers(true), stores);
    }

    private static void holds(BindingKernel x, String when, int app, int frames, int blocks) {
        CHECKS.due("frames " + when, x.held(app, false), frames);
        CHECKS.due("blocks " + when, x.held(app, true), blocks);
    }

    private static void filesAreNumberedFromZeroToFive() {
        CHECKS.about("each application has the files 0 to 5");
        BindingKernel x = new BindingKernel();
        for (int app = 0; app < 2; app++) {
            for (int name = 0; name < 6; name++) {
                for (int i = 0; i < 4; i++) {
                    CHECKS.due("append", x.append(app, name, 100 * app + 10 * name + i), true);
                }
            }
        }
        for (int app = 0; app < 2; app++) {
            for (int name = 0; name < 6; name++) {
                CHECKS.due("length", x.length(app, name), 4);
                for (int i = 0; i < 4; i++) {
                    CHECKS.due("read", x.read(app, name, i), 100 * app + 10 * name + i);
                }
            }
        }
    }

    private static void filesAreEmptyAtFirst() {
        CHECKS.about("a file is a list of words, empty at first, words counted from 0");
        BindingKernel x = new BindingKernel();
        for (int app = 0; app < 2; app++) {
            for (int name = 0; name < 6; name++) {
                CHECKS.due("length", x.length(app, name), 0);
                CHECKS.due("read", x.read(app, name, 0), 0);
                CHECKS.due("write", x.write(app, name, 0, 1), false);
                CHECKS.due("erase", x.erase(app, name), 0);
            }
            holds(x, "of empty files", app, 0, 0);
        }
        x.append(0, 0, 7);
        CHECKS.due("the first word is word 0", x.read(0, 0, 0), 7);
        CHECKS.due("there is no word 1", x.read(0, 0, 1), 0);
    }

    private static void everyWordIsKept() {
        CHECKS.about("Adds a word at the end of a file");
        BindingKernel x = new BindingKernel();
        int[] words = {0, 1, -1, MIN, MAX, MIN + 1, MAX - 1, 0, -2, -3, 65536, 1 << 30};
        for (int word : words) {
            CHECKS.due("append of " + word, x.append(1, 2, word), true);
        }
        while (x.squeeze(1)) {
            CHECKS.due("length", x.length(1, 2), words.length);
        }
        for (int i = 0; i < words.length; i++) {
            CHECKS.due("word " + i, x.read(1, 2, i), words[i]);
            CHECKS.due("write", x.write(1, 2, i, words[words.length - 1 - i]), true);
        }
        while (x.squeeze(1)) {
            CHECKS.due("length", x.length(1, 2), words.length);
        }
        for (int i = 0; i < words.length; i++) {
            CHECKS.due("written word " + i, x.read(1, 2, i), words[words.length - 1 - i]);
        }
    }

    private static void aPartHasFourWords() {
        CHECKS.about("Word i lies in PART i / 4 of its file.");
        BindingKernel x = new BindingKernel();
        Scenes.fill(x, 0, 1, 24);
        Scenes.fill(x, 1, 1, 8);
        while (x.squeeze(0)) {
            CHECKS.due("length", x.length(0, 1), 24);
        }
        int loads = x.transfers(false);
        for (int i = 0; i < 24; i++) {
            CHECKS.due("read", x.read(0, 1, i), Scenes.wordOf(1, i));
            CHECKS.due("loads up to word " + i, x.transfers(false), loads + i / 4 + 1);
        }
        for (int i = 23; i >= 0; i--) {
            x.read(0, 1, i);
            int downwards = Math.max(0, 5 - i / 4 - 2);
            CHECKS.due("loads down to word " + i, x.transfers(false), loads + 6 + downwards);
        }
    }

    private static void aPartWithAWordHasOneBlock() {
        CHECKS.about("For every part with at least one word the application holds one block");
        for (int app = 0; app < 2; app++) {
            BindingKernel x = new BindingKernel();
            holds(x, "of an empty file", app, 0, 0);
            for (int count = 1; count <= 24; count++) {
                Scenes.fill(x, app, 4, 1);
                int parts = (count + 3) / 4;
                holds(x, "with " + count + " words", app, Math.min(3, parts), parts);
                CHECKS.due("free blocks", x.free(true), 24 - parts);
            }
            while (x.squeeze(app)) {
                CHECKS.due("blocks without frames", x.held(app, true), 6);
            }
        }
    }

    private static void appendNeedsABlockForTheFirstWordOfAPart() {
        CHECKS.about("If it is the first of its part, a block is claimed before the part is opened.");
        BindingKernel x = Scenes.withBindings(12, 24, 0, 0);
        CHECKS.due("append that waits for a block and then a frame", x.append(0, 0, 1), true);
        CHECKS.due("time", x.time(), 10);
        CHECKS.due("second word", x.append(0, 0, 2) && x.append(0, 0, 3) && x.append(0, 0, 4), true);
        CHECKS.due("time", x.time(), 10);
        x.pass(1);
        x.ask(2, 3);
        CHECKS.due("fifth word", x.append(0, 0, 5), true);
        CHECKS.due("the block was waited for while the frame came free", x.time(), 16);
        holds(x, "after five words", 0, 2, 2);
        CHECKS.due("losses", x.losses(2), 4);
    }

    private static void appendIsRefusedWithSixBlocksInOneFile() {
        CHECKS.about("the word would be the first of its part and the application holds 6 blocks");
        for (int app = 0; app < 2; app++) {
            BindingKernel x = new BindingKernel();
            Scenes.fill(x, app, 5, 20);
            CHECKS.due("word 20, with five blocks", x.append(app, 5, 1), true);
            CHECKS.due("word 21, with six blocks", x.append(app, 5, 2), true);
            CHECKS.due("word 22, with six blocks", x.append(app, 5, 3), true);
            CHECKS.due("word 23, with six blocks", x.append(app, 5, 4), true);
            for (int name = 0; name < 6; name++) {
                CHECKS.due("first of a part, with six blocks", x.append(app, name, 5), false);
                CHECKS.due("length", x.length(app, name), name == 5 ? 24 : 0);
            }
            holds(x, "after the refusals", app, 3, 6);
            transfers(x, "after the refusals", 6, 3);
            CHECKS.due("the other application has blocks of its own", x.append(1 - app, 5, 1), true);
        }
    }

    private static void appendIsRefusedWithSixBlocksInSeveralFiles() {
        CHECKS.about("the word would be the first of its part and the application holds 6 blocks");
        BindingKernel x = Scenes.withFiles(1, 5);
        CHECKS.due("sixth block", x.append(1, 5, 1), true);
        for (int name = 0; name < 6; name++) {
            for (int i = 1; i < 4; i++) {
                CHECKS.due("word " + i + " needs no block", x.append(1, name, i), true);
            }
            CHECKS.due("word 4 needs a block", x.append(1, name, 4), false);
            CHECKS.due("length", x.length(1, name), 4);
        }
        holds(x, "after the refusals", 1, 3, 6);
    }

    private static void appendAgainAfterAnErase() {
        CHECKS.about("the application holds 6 blocks");
        BindingKernel x = Scenes.withFiles(0, 6);
        Scenes.fill(x, 0, 0, 3);
        CHECKS.due("with six blocks", x.append(0, 0, 4), false);
        x.erase(0, 3);
        CHECKS.due("with five blocks", x.append(0, 0, 4), true);
        CHECKS.due("with six blocks again", x.append(0, 3, 4), false);
        CHECKS.due("length", x.length(0, 0), 5);
        CHECKS.due("erase", x.erase(0, 0), 2);
        CHECKS.due("first word after an erase", x.append(0, 0, 9), true);
        CHECKS.due("read", x.read(0, 0, 0), 9);
        CHECKS.due("what was word 1", x.read(0, 0, 1), 0);
        CHECKS.due("what was word 4", x.read(0, 0, 4), 0);
        CHECKS.due("length", x.length(0, 0), 1);
    }

    private static void appendMakesTheFrameChanged() {
        CHECKS.about("The frame of the part counts as changed.");
        BindingKernel x = new BindingKernel();
        for (int i = 0; i < 8; i++) {
            CHECKS.due("append", x.append(0, 0, 0), true);
            CHECKS.due("sync after word " + i, x.sync(0), 1);
            CHECKS.due("sync again", x.sync(0), 0);
        }
        transfers(x, "at last", 2, 8);
    }

    private static void writeAndReadReachTheLastWordAndNotTheNext() {
        CHECKS.about("or there is no word i");
        for (int count = 1; count <= 24; count++) {
            BindingKernel x = new BindingKernel();
            Scenes.fill(x, 0, 3, count);
            CHECKS.due("read of word 0", x.read(0, 3, 0), Scenes.wordOf(3, 0));
            CHECKS.due("read of the last word", x.read(0, 3, count - 1), Scenes.wordOf(3, count - 1));
            CHECKS.due("write of word 0", x.write(0, 3, 0, -5), true);
            CHECKS.due("write of the last word", x.write(0, 3, count - 1, -6), true);
            int loads = x.transfers(false);
            reachesNothing(x, 0, 3, count);
            for (int i : NEVER_WORDS) {
                reachesNothing(x, 0, 3, i);
            }
            CHECKS.due("loads", x.transfers(false), loads);
            CHECKS.due("length", x.length(0, 3), count);
            CHECKS.due("the last word", x.read(0, 3, count - 1), -6);
            CHECKS.due("the first word", x.read(0, 3, 0), count == 1 ? -6 : -5);
        }
    }

    private static void reachesNothing(BindingKernel x, int app, int name, int i) {
        CHECKS.due("read of word " + i, x.read(app, name, i), 0);
        CHECKS.due("write of word " + i, x.write(app, name, i, 77), false);
    }

    private static void writeAndReadOfAnEmptyFile() {
        CHECKS.about("0, with nothing opened, when .. there is no word i");
        BindingKernel x = new BindingKernel();
        Scenes.fill(x, 0, 0, 24);
        x.squeeze(0);
        int[] indices = {0, 1, 3, 4, 23, -1, 24, MIN, MAX};
        for (int i : indices) {
            reachesNothing(x, 0, 1, i);
            reachesNothing(x, 1, 0, i);
        }
        reachesNothing(x, 0, 0, 24);
        holds(x, "after nothing was opened", 0, 2, 6);
        holds(x, "of the other application", 1, 0, 0);
        transfers(x, "after nothing was opened", 6, 4);
    }

    private static void writeOfTheSameWordIsAChange() {
        CHECKS.about("the frame counts as changed, also when the word is the same");
        BindingKernel x = Scenes.withFiles(1, 4);
        x.sync(1);
        int stores = x.transfers(true);
        CHECKS.due("write", x.write(1, 3, 0, Scenes.wordOf(3, 0)), true);
        CHECKS.due("stores by the write", x.transfers(true), stores);
        CHECKS.due("sync", x.sync(1), 1);
        CHECKS.due("write", x.write(1, 0, 0, Scenes.wordOf(0, 0)), true);
        CHECKS.due("sync after a write that loaded", x.sync(1), 1);
        CHECKS.due("write", x.write(1, 0, 0, Scenes.wordOf(0, 0)), true);
        x.squeeze(1);
        x.squeeze(1);
        CHECKS.due("stores before the changed one goes", x.transfers(true), stores + 2);
        x.squeeze(1);
        CHECKS.due("stores when the changed one goes", x.transfers(true), stores + 3);
    }

    private static void readIsNoChange() {
        CHECKS.about("the frame counts as used now and not as changed");
        BindingKernel x = Scenes.withFiles(0, 4);
        x.sync(0);
        int stores = x.transfers(true);
        for (int name = 0; name < 4; name++) {
            x.read(0, name, 0);
            CHECKS.due("sync after a read", x.sync(0), 0);
        }
        for (int name = 0; name < 4; name++) {
            x.read(0, name, 0);
        }
        CHECKS.due("stores", x.transfers(true), stores);
        CHECKS.due("a written word", x.write(0, 3, 0, 5), true);
        x.read(0, 3, 0);
        CHECKS.due("a read does not undo a change", x.sync(0), 1);
    }

    private static void lengthGoesFromZeroToTwentyFour() {
        CHECKS.about("The number of words of a file (nothing is opened).");
        BindingKernel x = new BindingKernel();
        for (int count = 0; count < 24; count++) {
            CHECKS.due("length", x.length(0, 0), count);
            x.append(0, 0, 1);
        }
        CHECKS.due("length of a full file", x.length(0, 0), 24);
        x.append(0, 0, 1);
        CHECKS.due("length after a refused append", x.length(0, 0), 24);
        while (x.squeeze(0)) {
            CHECKS.due("length without frames", x.length(0, 0), 24);
        }
        int loads = x.transfers(false);
        CHECKS.due("length", x.length(0, 0), 24);
        CHECKS.due("loads by length", x.transfers(false), loads);
        CHECKS.due("frames claimed by length", x.held(0, false), 0);
    }

    private static void eraseCountsTheBlocks() {
        CHECKS.about("The number of its blocks.");
        for (int count = 0; count <= 24; count++) {
            BindingKernel x = new BindingKernel();
            Scenes.fill(x, 1, 5, count);
            CHECKS.due("erase with " + count + " words", x.erase(1, 5), (count + 3) / 4);
            CHECKS.due("length", x.length(1, 5), 0);
            CHECKS.due("free blocks", x.free(true), 24);
            CHECKS.due("free frames", x.free(false), 12);
            CHECKS.due("erase of an empty file", x.erase(1, 5), 0);
            CHECKS.due("sync afterwards", x.sync(1), 0);
            CHECKS.due("squeeze afterwards", x.squeeze(1), false);
        }
    }

    private static void eraseStoresNothing() {
        CHECKS.about("nothing is stored");
        BindingKernel x = new BindingKernel();
        Scenes.fill(x, 0, 0, 12);
        transfers(x, "before", 3, 0);
        CHECKS.due("erase of three changed frames", x.erase(0, 0), 3);
        transfers(x, "after", 3, 0);
        Scenes.fill(x, 0, 0, 12);
        transfers(x, "the parts are loaded anew", 6, 0);
        for (int i = 0; i < 12; i++) {
            CHECKS.due("word " + i, x.read(0, 0, i), Scenes.wordOf(0, i));
        }
    }

    private static void eraseGivesBackTheFramesOfItsPartsAlone() {
        CHECKS.about("frames in which its parts lie and all its blocks are given back");
        BindingKernel x = new BindingKernel();
        Scenes.fill(x, 0, 0, 8);
        Scenes.fill(x, 0, 1, 4);
        Scenes.fill(x, 0, 2, 4);
        Scenes.fill(x, 1, 0, 4);
        x.read(0, 0, 7);
        int loads = x.transfers(false);
        int stores = x.transfers(true);
        CHECKS.due("erase, one of two parts lies in a frame", x.erase(0, 0), 2);
        holds(x, "of the eraser", 0, 2, 2);
        holds(x, "of the other application", 1, 1, 1);
        for (int i = 0; i < 4; i++) {
            CHECKS.due("file 1", x.read(0, 1, i), Scenes.wordOf(1, i));
            CHECKS.due("file 2", x.read(0, 2, i), Scenes.wordOf(2, i));
            CHECKS.due("the other application's file 0", x.read(1, 0, i), Scenes.wordOf(0, i));
        }
        transfers(x, "all others lay in frames", loads, stores);
        CHECKS.due("what is left to store", x.sync(0), 2);
    }

    private static void syncStoresNoneToThree() {
        CHECKS.about("The number of frames that were stored.");
        for (int changed = 0; changed <= 3; changed++) {
            BindingKernel x = Scenes.withFiles(0, 3);
            Scenes.fill(x, 1, 0, 1);
            x.sync(0);
            for (int name = 0; name < changed; name++) {
                x.write(0, name, 0, 9);
            }
            CHECKS.due("sync", x.sync(0), changed);
            CHECKS.due("sync again", x.sync(0), 0);
            transfers(x, "after sync", 4, 3 + changed);
            holds(x, "after sync", 0, 3, 3);
        }
        CHECKS.due("sync without a frame", new BindingKernel().sync(0), 0);
        CHECKS.due("sync without a frame", new BindingKernel().sync(1), 0);
    }

    private static void syncOfWhatWasStored() {
        CHECKS.about("changed since its part was loaded into it or stored");
        BindingKernel x = Scenes.withFiles(0, 4);
        x.read(0, 0, 0);
        CHECKS.due("sync: file 0 was loaded, files 2 and 3 were changed", x.sync(0), 2);
        x.write(0, 2, 0, 8);
        x.read(0, 0, 0);
        x.read(0, 3, 0);
        x.read(0, 1, 0);
        CHECKS.due("sync: file 2 was stored when its frame was taken", x.sync(0), 0);
        CHECKS.due("what was stored", x.read(0, 2, 0), 8);
        transfers(x, "at last", 7, 5);
    }

    private static void squeezeOfOneFrameAndOfNone() {
        CHECKS.about("false when app is not 0 or 1 or holds no frame");
        for (int frames = 0; frames <= 3; frames++) {
            for (int app = 0; app < 2; app++) {
                BindingKernel x = Scenes.withFiles(app, frames);
                for (int left = frames; left > 0; left--) {
                    CHECKS.due("squeeze with " + left, x.squeeze(app), true);
                    holds(x, "after squeeze", app, left - 1, frames);
                    CHECKS.due("free frames", x.free(false), 13 - left);
                }
                CHECKS.due("squeeze with none", x.squeeze(app), false);
                transfers(x, "after all", frames, frames);
                CHECKS.due("free frames", x.free(false), 12);
            }
        }
    }

    private static void squeezeStoresOnlyWhatWasChanged() {
        CHECKS.about("is stored if it was changed since its part was loaded into it or stored");
        BindingKernel x = Scenes.withFiles(0, 3);
        x.sync(0);
        x.write(0, 1, 0, 5);
        x.read(0, 2, 0);
        int stores = x.transfers(true);
        x.squeeze(0);
        CHECKS.due("stores: file 0 was not changed", x.transfers(true), stores);
        x.squeeze(0);
        CHECKS.due("stores: file 1 was changed", x.transfers(true), stores + 1);
        x.squeeze(0);
        CHECKS.due("stores: file 2 was not changed", x.transfers(true), stores + 1);
        CHECKS.due("file 1", x.read(0, 1, 0), 5);
        CHECKS.due("file 2", x.read(0, 2, 0), Scenes.wordOf(2, 0));
        CHECKS.due("file 0", x.read(0, 0, 0), Scenes.wordOf(0, 0));
    }

    private static void wrongApplicationsAreRefused() {
        CHECKS.about("when app is not 0 or 1");
        BindingKernel x = Scenes.withFiles(0, 6);
        x.bind(2, false);
        x.bind(3, false);
        for (int app : NO_APPS) {
            for (int name = 0; name < 6; name++) {
                refusesFile(x, app, name);
            }
            CHECKS.due("sync of " + app, x.sync(app), NONE);
            CHECKS.due("squeeze of " + app, x.squeeze(app), false);
        }
        CHECKS.due("sync of 0", x.sync(0), 3);
        CHECKS.due("sync of 1", x.sync(1), 0);
        CHECKS.due("squeeze of 0", x.squeeze(0), true);
        CHECKS.due("squeeze of 1", x.squeeze(1), false);
    }

    private static void wrongNamesAreRefused() {
        CHECKS.about("name is not 0 .. 5");
        BindingKernel x = new BindingKernel();
        Scenes.fill(x, 0, 0, 8);
        Scenes.fill(x, 0, 5, 8);
        Scenes.fill(x, 1, 0, 8);
        Scenes.fill(x, 1, 5, 8);
        for (int app = 0; app < 2; app++) {
            for (int name : NO_NAMES) {
                refusesFile(x, app, name);
            }
        }
        for (int app = 0; app < 2; app++) {
            CHECKS.due("length of file 0", x.length(app, 0), 8);
            CHECKS.due("length of file 5", x.length(app, 5), 8);
            holds(x, "of " + app, app, 3, 4);
        }
        transfers(x, "after refused calls", 8, 2);
    }

    private static void refusesFile(BindingKernel x, int app, int name) {
        String file = " of file " + name + " of " + app;
        CHECKS.due("append" + file, x.append(app, name, 1), false);
        CHECKS.due("write" + file, x.write(app, name, 0, 1), false);
        CHECKS.due("read" + file, x.read(app, name, 0), 0);
        CHECKS.due("length" + file, x.length(app, name), NONE);
        CHECKS.due("erase" + file, x.erase(app, name), NONE);
    }
}
