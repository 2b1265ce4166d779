/** Promises 2 to 8: the files of the applications. */
public final class FilesTest {
    private static final int NONE = BindingKernel.NONE;
    private static final int[] NO_APPS = {-1, 2, 3, 4, Integer.MIN_VALUE, Integer.MAX_VALUE};
    private static final int[] NO_NAMES = {-1, 6, 7, Integer.MIN_VALUE, Integer.MAX_VALUE};
    private static final Checks CHECKS = new Checks("FilesTest");

    public static void main(String[] args) {
        appendKeepsWords();
        appendClaimsABlockForEachPart();
        appendIsRefusedBeyondSixBlocks();
        appendInAPartThatIsThereNeedsNoBlock();
        appendClaimsTheBlockBeforeTheFrame();
        appendCountsAsChange();
        writeChangesOneWord();
        writeOfTheSameWordCountsAsChange();
        writeOfNoWordIsRefused();
        readOpensThePart();
        readOfNoWordOpensNothing();
        openTakesTheFrameUsedLongestAgo();
        lengthOpensNothing();
        eraseGivesBackAndStoresNothing();
        eraseLeavesOtherFrames();
        syncStoresWhatChanged();
        syncDoesNotCountAsUse();
        squeezeGivesBackTheOldest();
        squeezeStoresOnlyWhatChanged();
        wrongNamesAreRefused();
        CHECKS.end();
    }

    private static void fill(BindingKernel x, int app, int name, int count) {
        for (int i = 0; i < count; i++) {
            CHECKS.due("append while filling", x.append(app, name, 100 * name + i), true);
        }
    }

    /** One word in each of the given number of files, opened in the order of their names. */
    private static BindingKernel withFiles(int app, int count) {
        BindingKernel x = new BindingKernel();
        for (int name = 0; name < count; name++) {
            fill(x, app, name, 1);
        }
        return x;
    }

    private static void holds(BindingKernel x, String when, int app, int frames, int blocks) {
        CHECKS.due(when + ": held frames", x.held(app, false), frames);
        CHECKS.due(when + ": held blocks", x.held(app, true), blocks);
    }

    private static void moved(BindingKernel x, String when, int loads, int stores) {
        CHECKS.due(when + ": loads", x.transfers(false), loads);
        CHECKS.due(when + ": stores", x.transfers(true), stores);
    }

    private static void appendKeepsWords() {
        BindingKernel x = new BindingKernel();
        int[] words = {5, -5, 0, Integer.MIN_VALUE, Integer.MAX_VALUE, 5};
        for (int app = 0; app < 2; app++) {
            for (int i = 0; i < words.length; i++) {
                CHECKS.due("append", x.append(app, 5, words[i] - app), true);
                CHECKS.due("length after append", x.length(app, 5), i + 1);
            }
        }
        for (int app = 0; app < 2; app++) {
            for (int i = 0; i < words.length; i++) {
                CHECKS.due("read what was appended", x.read(app, 5, i), words[i] - app);
            }
        }
        CHECKS.due("another file is empty", x.length(0, 4), 0);
    }

    private static void appendClaimsABlockForEachPart() {
        BindingKernel x = new BindingKernel();
        for (int i = 0; i < 24; i++) {
            fill(x, 1, 3, 1);
            holds(x, "after " + (i + 1) + " words", 1, Math.min(3, i / 4 + 1), i / 4 + 1);
            CHECKS.due("free blocks", x.free(true), 24 - (i / 4 + 1));
        }
        moved(x, "after six parts", 6, 3);
        CHECKS.due("time without waiting", x.time(), 0);
    }

    private static void appendIsRefusedBeyondSixBlocks() {
        BindingKernel x = new BindingKernel();
        fill(x, 0, 0, 24);
        CHECKS.due("append of a seventh part", x.append(0, 0, 1), false);
        CHECKS.due("append of a first part with six blocks held", x.append(0, 1, 1), false);
        CHECKS.due("length after the refusal", x.length(0, 0), 24);
        CHECKS.due("length of the other file after the refusal", x.length(0, 1), 0);
        holds(x, "after the refusal", 0, 3, 6);
        moved(x, "after the refusal", 6, 3);
        CHECKS.due("free blocks after the refusal", x.free(true), 18);
        CHECKS.due("the other application may append", x.append(1, 1, 1), true);
        CHECKS.due("read after the refusal", x.read(0, 0, 23), 23);
    }

    private static void appendInAPartThatIsThereNeedsNoBlock() {
        BindingKernel x = withFiles(0, 6);
        CHECKS.due("second word of a part", x.append(0, 0, 1), true);
        CHECKS.due("third word of a part", x.append(0, 0, 2), true);
        CHECKS.due("fourth word of a part", x.append(0, 0, 3), true);
        CHECKS.due("first word of the next part", x.append(0, 0, 4), false);
        CHECKS.due("length", x.length(0, 0), 4);
        x.erase(0, 5);
        CHECKS.due("first word of the next part when a block was given back",
                x.append(0, 0, 4), true);
    }

    private static void appendClaimsTheBlockBeforeTheFrame() {
        BindingKernel x = new BindingKernel();
        for (int i = 0; i < 12; i++) {
            x.bind(2, false);
        }
        for (int i = 0; i < 24; i++) {
            x.bind(2, true);
        }
        CHECKS.due("ask for a frame", x.ask(2, 4), true);
        CHECKS.due("append that waits", x.append(0, 0, 9), true);
        CHECKS.due("the frame came free while the block was waited for", x.time(), 5);
        CHECKS.due("the frame was taken", x.state(2, 4), 1);
        CHECKS.due("the block bound last was taken", x.state(2, 35), 1);
        CHECKS.due("no other frame was asked for", x.state(2, 11), 2);
        CHECKS.due("losses", x.losses(2), 2);
        CHECKS.due("read", x.read(0, 0, 0), 9);
        CHECKS.due("append that waits for both", x.append(0, 1, 8), true);
        CHECKS.due("a block and then a frame were waited for", x.time(), 15);
        CHECKS.due("the frame bound last was taken", x.state(2, 11), 1);
        holds(x, "after waiting", 0, 2, 2);
    }

    private static void appendCountsAsChange() {
        BindingKernel x = withFiles(0, 1);
        CHECKS.due("sync after the first append", x.sync(0), 1);
        fill(x, 0, 0, 1);
        CHECKS.due("sync after the second append", x.sync(0), 1);
    }

    private static void writeChangesOneWord() {
        BindingKernel x = new BindingKernel();
        fill(x, 0, 2, 9);
        for (int i = 0; i < 9; i++) {
            CHECKS.due("write", x.write(0, 2, i, -i), true);
            CHECKS.due("read what was written", x.read(0, 2, i), -i);
            if (i < 8) {
                CHECKS.due("the next word is as before", x.read(0, 2, i + 1), 201 + i);
            }
        }
        CHECKS.due("length after writes", x.length(0, 2), 9);
        holds(x, "after writes", 0, 3, 3);
        for (int i = 0; i < 3; i++) {
            x.squeeze(0);
        }
        for (int i = 0; i < 9; i++) {
            CHECKS.due("read what was written and stored", x.read(0, 2, i), -i);
        }
    }

    private static void writeOfTheSameWordCountsAsChange() {
        BindingKernel x = withFiles(1, 1);
        x.sync(1);
        CHECKS.due("write of the same word", x.write(1, 0, 0, 0), true);
        CHECKS.due("sync after a write of the same word", x.sync(1), 1);
    }

    private static void writeOfNoWordIsRefused() {
        BindingKernel x = withFiles(0, 4);
        int[] noWords = {1, 2, 4, -1, Integer.MIN_VALUE, Integer.MAX_VALUE};
        for (int i : noWords) {
            CHECKS.due("write of word " + i, x.write(0, 0, i, 1), false);
        }
        CHECKS.due("write in an empty file", x.write(0, 5, 0, 1), false);
        CHECKS.due("write in a file of the other application", x.write(1, 0, 0, 1), false);
        moved(x, "after refused writes", 4, 1);
        CHECKS.due("length after refused writes", x.length(0, 0), 1);
        holds(x, "after refused writes", 1, 0, 0);
    }

    private static void readOpensThePart() {
        BindingKernel x = withFiles(0, 1);
        x.squeeze(0);
        holds(x, "after squeeze", 0, 0, 1);
        CHECKS.due("read", x.read(0, 0, 0), 0);
        holds(x, "after read", 0, 1, 1);
        moved(x, "after read", 2, 1);
        CHECKS.due("read again", x.read(0, 0, 0), 0);
        moved(x, "after reading in a frame", 2, 1);
        CHECKS.due("a read is no change", x.sync(0), 0);
    }

    private static void readOfNoWordOpensNothing() {
        BindingKernel x = withFiles(0, 4);
        fill(x, 0, 3, 1);
        int[] noWords = {1, 3, 4, -1, -4, Integer.MIN_VALUE, Integer.MAX_VALUE};
        for (int i : noWords) {
            CHECKS.due("read of word " + i, x.read(0, 0, i), 0);
        }
        CHECKS.due("no word behind the last", x.read(0, 3, 2), 0);
        CHECKS.due("no word in an empty file", x.read(0, 5, 0), 0);
        CHECKS.due("no word of the other application", x.read(1, 3, 0), 0);
        moved(x, "after reads of no words", 4, 1);
        CHECKS.due("time", x.time(), 0);
    }

    private static void openTakesTheFrameUsedLongestAgo() {
        BindingKernel x = withFiles(0, 3);
        CHECKS.due("use file 0 again", x.read(0, 0, 0), 0);
        fill(x, 0, 3, 1);
        moved(x, "file 3 took the frame of file 1", 4, 1);
        x.read(0, 0, 0);
        x.write(0, 2, 0, 222);
        moved(x, "files 0 and 2 lie in frames", 4, 1);
        CHECKS.due("file 1 comes back", x.read(0, 1, 0), 100);
        moved(x, "file 1 took the frame of file 3, which was changed", 5, 2);
        x.read(0, 0, 0);
        x.read(0, 2, 0);
        moved(x, "files 0 and 2 still lie in frames", 5, 2);
        CHECKS.due("file 3 comes back", x.read(0, 3, 0), 300);
        moved(x, "file 3 took the frame of file 1, which was not changed", 6, 2);
        holds(x, "after all that", 0, 3, 4);
        fill(x, 1, 0, 1);
        moved(x, "the other application has frames of its own", 7, 2);
        CHECKS.due("read after another application's load", x.read(0, 2, 0), 222);
        moved(x, "nothing of this one was moved", 7, 2);
    }

    private static void lengthOpensNothing() {
        BindingKernel x = withFiles(0, 2);
        x.squeeze(0);
        x.squeeze(0);
        CHECKS.due("length", x.length(0, 1), 1);
        CHECKS.due("length of an empty file", x.length(0, 2), 0);
        CHECKS.due("length of a file of the other application", x.length(1, 1), 0);
        holds(x, "after length", 0, 0, 2);
        moved(x, "after length", 2, 2);
    }

    private static void eraseGivesBackAndStoresNothing() {
        BindingKernel x = new BindingKernel();
        fill(x, 0, 1, 17);
        holds(x, "before erase", 0, 3, 5);
        moved(x, "before erase", 5, 2);
        CHECKS.due("erase", x.erase(0, 1), 5);
        holds(x, "after erase", 0, 0, 0);
        moved(x, "after erase", 5, 2);
        CHECKS.due("free frames after erase", x.free(false), 12);
        CHECKS.due("free blocks after erase", x.free(true), 24);
        CHECKS.due("length after erase", x.length(0, 1), 0);
        CHECKS.due("read after erase", x.read(0, 1, 0), 0);
        CHECKS.due("write after erase", x.write(0, 1, 0, 1), false);
        CHECKS.due("erase again", x.erase(0, 1), 0);
        CHECKS.due("sync after erase", x.sync(0), 0);
        CHECKS.due("squeeze after erase", x.squeeze(0), false);
        fill(x, 0, 1, 24);
        CHECKS.due("the file can be filled again", x.read(0, 1, 20), 120);
    }

    private static void eraseLeavesOtherFrames() {
        BindingKernel x = withFiles(0, 4);
        fill(x, 1, 2, 1);
        CHECKS.due("erase of a file that lies in no frame", x.erase(0, 0), 1);
        holds(x, "after the first erase", 0, 3, 3);
        CHECKS.due("erase of a file that lies in a frame", x.erase(0, 2), 1);
        holds(x, "after the second erase", 0, 2, 2);
        holds(x, "the other application", 1, 1, 1);
        moved(x, "after both", 5, 1);
        CHECKS.due("read of file 1", x.read(0, 1, 0), 100);
        CHECKS.due("read of file 3", x.read(0, 3, 0), 300);
        CHECKS.due("read of the other application", x.read(1, 2, 0), 200);
        moved(x, "all lay in frames", 5, 1);
        fill(x, 0, 5, 1);
        holds(x, "a third frame was claimed", 0, 3, 3);
        moved(x, "nothing was stored for it", 6, 1);
        fill(x, 0, 4, 1);
        moved(x, "the frame of file 1 was used longest ago", 7, 2);
        x.read(0, 3, 0);
        moved(x, "file 3 still lies in a frame", 7, 2);
    }

    private static void syncStoresWhatChanged() {
        BindingKernel x = withFiles(0, 3);
        fill(x, 1, 0, 1);
        CHECKS.due("sync", x.sync(0), 3);
        moved(x, "after sync", 4, 3);
        CHECKS.due("sync again", x.sync(0), 0);
        x.write(0, 1, 0, 111);
        x.read(0, 2, 0);
        CHECKS.due("sync after one write", x.sync(0), 1);
        moved(x, "after the third sync", 4, 4);
        holds(x, "after the third sync", 0, 3, 3);
        CHECKS.due("read after sync", x.read(0, 1, 0), 111);
        CHECKS.due("sync of the other application", x.sync(1), 1);
        moved(x, "after all syncs", 4, 5);
        fill(x, 0, 3, 1);
        fill(x, 0, 4, 1);
        moved(x, "what was synced is not stored again", 6, 5);
        CHECKS.due("sync of an application without frames", new BindingKernel().sync(1), 0);
    }

    private static void syncDoesNotCountAsUse() {
        BindingKernel x = withFiles(0, 3);
        x.read(0, 0, 0);
        x.sync(0);
        fill(x, 0, 3, 1);
        moved(x, "file 3 took the frame of file 1", 4, 3);
        x.read(0, 0, 0);
        x.read(0, 2, 0);
        moved(x, "files 0 and 2 lie in frames", 4, 3);
        x.read(0, 1, 0);
        moved(x, "file 1 does not", 5, 4);
    }

    private static void squeezeGivesBackTheOldest() {
        BindingKernel x = withFiles(0, 3);
        x.read(0, 0, 0);
        CHECKS.due("squeeze", x.squeeze(0), true);
        holds(x, "after squeeze", 0, 2, 3);
        CHECKS.due("free frames", x.free(false), 10);
        moved(x, "it was stored", 3, 1);
        x.read(0, 0, 0);
        x.read(0, 2, 0);
        moved(x, "files 0 and 2 lie in frames", 3, 1);
        CHECKS.due("read of file 1", x.read(0, 1, 0), 100);
        moved(x, "file 1 was given back", 4, 1);
        holds(x, "a frame was claimed again", 0, 3, 3);
        CHECKS.due("squeeze of an application without frames", x.squeeze(1), false);
    }

    private static void squeezeStoresOnlyWhatChanged() {
        BindingKernel x = withFiles(1, 2);
        x.sync(1);
        x.write(1, 1, 0, 5);
        CHECKS.due("squeeze of a frame that was synced", x.squeeze(1), true);
        moved(x, "not stored again", 2, 2);
        CHECKS.due("squeeze of a changed frame", x.squeeze(1), true);
        moved(x, "stored", 2, 3);
        CHECKS.due("squeeze without a frame", x.squeeze(1), false);
        moved(x, "after the refusal", 2, 3);
        holds(x, "after three squeezes", 1, 0, 2);
        CHECKS.due("length after squeezes", x.length(1, 1), 1);
        CHECKS.due("read after squeezes", x.read(1, 1, 0), 5);
    }

    private static void wrongNamesAreRefused() {
        BindingKernel x = withFiles(0, 4);
        for (int app : NO_APPS) {
            refusesFile(x, app, 0);
            CHECKS.due("sync of " + app, x.sync(app), NONE);
            CHECKS.due("squeeze of " + app, x.squeeze(app), false);
        }
        for (int name : NO_NAMES) {
            refusesFile(x, 0, name);
            refusesFile(x, 1, name);
        }
        moved(x, "after refused calls", 4, 1);
        holds(x, "after refused calls", 0, 3, 4);
        holds(x, "after refused calls", 1, 0, 0);
        CHECKS.due("free blocks after refused calls", x.free(true), 20);
    }

    private static void refusesFile(BindingKernel x, int app, int name) {
        String file = " of file " + name + " of " + app;
        CHECKS.due("append" + file, x.append(app, name, 1), false);
        CHECKS.due("write" + file, x.write(app, name, 0, 1), false);
        CHECKS.due("read" + file, x.read(app, name, 0), 0);
        CHECKS.due("length" + file, x.length(app, name), NONE);
        CHECKS.due("erase" + file, x.erase(app, name), NONE);
    }
}
