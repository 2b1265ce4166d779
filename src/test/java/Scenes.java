/** What several tests do to an object before the call they are about. */
final class Scenes {
    static final int FRAMES = 12;
    static final int BLOCKS = 24;
    static final boolean[] KINDS = {false, true};

    private Scenes() {
    }

    static int sizeOf(boolean block) {
        return block ? BLOCKS : FRAMES;
    }

    static int shareOf(boolean block) {
        return block ? 6 : 3;
    }

    static void bindMany(BindingKernel x, int guest, boolean block, int count) {
        for (int i = 0; i < count; i++) {
            x.bind(guest, block);
        }
    }

    static BindingKernel withBindings(int framesOfTwo, int blocksOfTwo,
            int framesOfThree, int blocksOfThree) {
        BindingKernel x = new BindingKernel();
        bindMany(x, 2, false, framesOfTwo);
        bindMany(x, 2, true, blocksOfTwo);
        bindMany(x, 3, false, framesOfThree);
        bindMany(x, 3, true, blocksOfThree);
        return x;
    }

    /** Both guests hold resources of one kind alone, so that their tickets count them. */
    static BindingKernel withKind(boolean block, int countOfTwo, int countOfThree) {
        BindingKernel x = new BindingKernel();
        bindMany(x, 2, block, countOfTwo);
        bindMany(x, 3, block, countOfThree);
        return x;
    }

    /** Word i of a file filled so is wordOf(name, i), which is never 0. */
    static void fill(BindingKernel x, int app, int name, int count) {
        int before = x.length(app, name);
        for (int i = 0; i < count; i++) {
            x.append(app, name, wordOf(name, before + i));
        }
    }

    static int wordOf(int name, int i) {
        return 1000 + 100 * name + i;
    }

    /** One word in each of the files 0 to count - 1, whose parts are opened in that order. */
    static BindingKernel withFiles(int app, int count) {
        BindingKernel x = new BindingKernel();
        for (int name = 0; name < count; name++) {
            fill(x, app, name, 1);
        }
        return x;
    }

    static void putAll(BindingKernel x, int guest, int ticket, int first) {
        for (int i = 0; i < 4; i++) {
            x.put(guest, ticket, i, first + i);
        }
    }

    static void spendTickets(BindingKernel x, int guest, boolean block, int count) {
        for (int i = 0; i < count; i++) {
            x.release(guest, x.bind(guest, block));
        }
    }
}
