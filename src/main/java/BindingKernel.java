import java.util.Arrays;

/**
 * A kernel that hands out frames and blocks and can ask for them back, a library that keeps files
 * for two applications, and two guests that use the kernel directly.
 */
public final class BindingKernel {
    public static final int NONE = -1;
    public static final int REFUSED = -2;
    public static final int WAITS = -3;

    private static final int ENVIRONMENTS = 4;
    private static final int APPLICATIONS = 2;
    private static final int FIRST_GUEST = 2;
    private static final int SECOND_GUEST = 3;

    private static final int FRAMES = 12;
    private static final int BLOCKS = 24;
    private static final int FRAME_SHARE = 3;
    private static final int BLOCK_SHARE = 6;
    private static final int WORDS = 4;

    private static final int GRACE = 5;
    private static final int LONGEST_PASS = 50;
    // Above every deadline; written out because rule 4 lists no constant of Integer.
    private static final int NO_DEADLINE = 0x7fffffff;

    private static final int TICKETS = 60;
    private static final int GIVEN_BACK = 0;
    private static final int TAKEN = 1;
    private static final int LIVE = 2;
    private static final int ASKED_FOR = 3;

    private static final int FILES = 6;
    // A file can't have more parts than its application may hold blocks.
    private static final int PARTS = BLOCK_SHARE;

    private final Kernel kernel;
    private final Application[] applications;

    public BindingKernel() {
        kernel = new Kernel();
        applications = new Application[APPLICATIONS];
        for (int app = 0; app < APPLICATIONS; app++) {
            applications[app] = new Application(kernel, app);
        }
    }

    public boolean append(int app, int name, int word) {
        Application application = applicationOf(app);
        return application != null && application.appendWord(name, word);
    }

    public boolean write(int app, int name, int i, int word) {
        Application application = applicationOf(app);
        return application != null && application.writeWord(name, i, word);
    }

    public int read(int app, int name, int i) {
        Application application = applicationOf(app);
        return application == null ? 0 : application.readWord(name, i);
    }

    public int length(int app, int name) {
        Application application = applicationOf(app);
        return application == null ? NONE : application.lengthOf(name);
    }

    public int erase(int app, int name) {
        Application application = applicationOf(app);
        return application == null ? NONE : application.eraseFile(name);
    }

    public int sync(int app) {
        Application application = applicationOf(app);
        return application == null ? NONE : application.storeAllChanged();
    }

    public boolean squeeze(int app) {
        Application application = applicationOf(app);
        return application != null && application.giveUpOldestFrame();
    }

    public int bind(int guest, boolean block) {
        return kernel.bindForGuest(guest, block);
    }

    public boolean put(int guest, int ticket, int i, int word) {
        Guest holder = kernel.guestOf(guest);
        return holder != null && holder.putWord(ticket, i, word);
    }

    public int get(int guest, int ticket, int i) {
        Guest holder = kernel.guestOf(guest);
        return holder == null ? 0 : holder.getWord(ticket, i);
    }

    public boolean copy(int guest, int from, int to) {
        Guest holder = kernel.guestOf(guest);
        return holder != null && holder.copyWords(from, to);
    }

    public boolean release(int guest, int ticket) {
        Guest holder = kernel.guestOf(guest);
        return holder != null && holder.giveBack(ticket);
    }

    public boolean ask(int guest, int ticket) {
        Guest holder = kernel.guestOf(guest);
        return holder != null && holder.askFor(ticket, kernel.now + GRACE);
    }

    public int state(int guest, int ticket) {
        Guest holder = kernel.guestOf(guest);
        return holder == null ? NONE : holder.stateOf(ticket);
    }

    public int pass(int n) {
        return n >= 1 && n <= LONGEST_PASS ? kernel.moveTimeTo(kernel.now + n) : NONE;
    }

    public int time() {
        return kernel.now;
    }

    public int free(boolean block) {
        return kernel.poolOf(block).countFree();
    }

    public int held(int environment, boolean block) {
        return isEnvironment(environment) ? kernel.poolOf(block).countHeldBy(environment) : NONE;
    }

    public int losses(int environment) {
        if (!isEnvironment(environment)) {
            return NONE;
        }
        Guest guest = kernel.guestOf(environment);
        return guest == null ? 0 : guest.lossCount;
    }

    public int transfers(boolean stored) {
        int sum = 0;
        for (Application application : applications) {
            sum += stored ? application.storeCount : application.loadCount;
        }
        return sum;
    }

    private Application applicationOf(int app) {
        return app >= 0 && app < APPLICATIONS ? applications[app] : null;
    }

    private static boolean isEnvironment(int environment) {
        return environment >= 0 && environment < ENVIRONMENTS;
    }

    /** All resources of one kind: their words, and who holds them. */
    private static final class Pool {
        final int share;
        private final int[] holders;
        private final int[] words;

        Pool(int size, int share) {
            this.share = share;
            holders = new int[size];
            words = new int[size * WORDS];
            Arrays.fill(holders, NONE);
        }

        /** The resource that was bound, or NONE if none was free. */
        int bindFreeOne(int environment) {
            for (int resource = 0; resource < holders.length; resource++) {
                if (holders[resource] == NONE) {
                    holders[resource] = environment;
                    for (int i = 0; i < WORDS; i++) {
                        words[resource * WORDS + i] = 0;
                    }
                    return resource;
                }
            }
            return NONE;
        }

        void endBinding(int resource) {
            if (resource >= 0 && resource < holders.length) {
                holders[resource] = NONE;
            }
        }

        int countFree() {
            return countHeldBy(NONE);
        }

        int countHeldBy(int environment) {
            int count = 0;
            for (int holder : holders) {
                if (holder == environment) {
                    count++;
                }
            }
            return count;
        }

        boolean hasFullShare(int environment) {
            return countHeldBy(environment) >= share;
        }

        int wordAt(int resource, int i) {
            return hasWord(resource, i) ? words[resource * WORDS + i] : 0;
        }

        boolean setWord(int resource, int i, int word) {
            if (!hasWord(resource, i)) {
                return false;
            }
            words[resource * WORDS + i] = word;
            return true;
        }

        void takeWordsFrom(Pool source, int from, int to) {
            if (source.hasResource(from) && hasResource(to)) {
                System.arraycopy(source.words, from * WORDS, words, to * WORDS, WORDS);
            }
        }

        private boolean hasResource(int resource) {
            return resource >= 0 && resource < holders.length;
        }

        private boolean hasWord(int resource, int i) {
            return hasResource(resource) && i >= 0 && i < WORDS;
        }
    }

    /** The tickets of one guest, and what became of them. */
    private static final class Guest {
        int lossCount;
        private final Pool frames;
        private final Pool blocks;
        private final boolean[] ofBlocks = new boolean[TICKETS];
        private final int[] resources = new int[TICKETS];
        private final int[] states = new int[TICKETS];
        private final int[] deadlines = new int[TICKETS];
        private int ticketCount;

        Guest(Pool frames, Pool blocks) {
            this.frames = frames;
            this.blocks = blocks;
        }

        boolean hasAllTickets() {
            return ticketCount >= TICKETS;
        }

        int addTicket(boolean block, int resource) {
            if (hasAllTickets()) {
                return NONE;
            }
            int ticket = ticketCount;
            ofBlocks[ticket] = block;
            resources[ticket] = resource;
            states[ticket] = LIVE;
            ticketCount++;
            return ticket;
        }

        int stateOf(int ticket) {
            return ticket >= 0 && ticket < ticketCount ? states[ticket] : NONE;
        }

        boolean putWord(int ticket, int i, int word) {
            return isLiveOf(ticket, false) && frames.setWord(resources[ticket], i, word);
        }

        int getWord(int ticket, int i) {
            return isLiveOf(ticket, false) ? frames.wordAt(resources[ticket], i) : 0;
        }

        boolean copyWords(int from, int to) {
            if (isLiveOf(from, false) && isLiveOf(to, true)) {
                blocks.takeWordsFrom(frames, resources[from], resources[to]);
                return true;
            }
            if (isLiveOf(from, true) && isLiveOf(to, false)) {
                frames.takeWordsFrom(blocks, resources[from], resources[to]);
                return true;
            }
            return false;
        }

        boolean giveBack(int ticket) {
            if (!isLive(ticket)) {
                return false;
            }
            states[ticket] = GIVEN_BACK;
            poolOf(ticket).endBinding(resources[ticket]);
            return true;
        }

        boolean askFor(int ticket, int deadline) {
            if (stateOf(ticket) != LIVE) {
                return false;
            }
            states[ticket] = ASKED_FOR;
            deadlines[ticket] = deadline;
            return true;
        }

        void askForLastOf(boolean block, int deadline) {
            for (int ticket = ticketCount - 1; ticket >= 0; ticket--) {
                if (states[ticket] == LIVE && ofBlocks[ticket] == block) {
                    states[ticket] = ASKED_FOR;
                    deadlines[ticket] = deadline;
                    return;
                }
            }
        }

        int earliestDeadline(boolean block) {
            int earliest = NO_DEADLINE;
            for (int ticket = 0; ticket < ticketCount; ticket++) {
                if (states[ticket] == ASKED_FOR && ofBlocks[ticket] == block
                        && deadlines[ticket] < earliest) {
                    earliest = deadlines[ticket];
                }
            }
            return earliest;
        }

        int loseAllDue(int now) {
            int lost = 0;
            for (int ticket = 0; ticket < ticketCount; ticket++) {
                if (states[ticket] == ASKED_FOR && deadlines[ticket] <= now) {
                    states[ticket] = TAKEN;
                    poolOf(ticket).endBinding(resources[ticket]);
                    lost++;
                }
            }
            lossCount += lost;
            return lost;
        }

        private boolean isLive(int ticket) {
            int fate = stateOf(ticket);
            return fate == LIVE || fate == ASKED_FOR;
        }

        private boolean isLiveOf(int ticket, boolean block) {
            return isLive(ticket) && ofBlocks[ticket] == block;
        }

        private Pool poolOf(int ticket) {
            return ofBlocks[ticket] ? blocks : frames;
        }
    }

    /** The time, the resources and the claims on them. */
    private static final class Kernel {
        int now;
        final Pool frames = new Pool(FRAMES, FRAME_SHARE);
        final Pool blocks = new Pool(BLOCKS, BLOCK_SHARE);
        private final Guest firstGuest = new Guest(frames, blocks);
        private final Guest secondGuest = new Guest(frames, blocks);

        Pool poolOf(boolean block) {
            return block ? blocks : frames;
        }

        /** Null when the environment is not a guest. */
        Guest guestOf(int environment) {
            if (environment == FIRST_GUEST) {
                return firstGuest;
            }
            return environment == SECOND_GUEST ? secondGuest : null;
        }

        int bindForGuest(int environment, boolean block) {
            Guest guest = guestOf(environment);
            if (guest == null || guest.hasAllTickets()) {
                return NONE;
            }
            int answer = claim(environment, block);
            return answer >= 0 ? guest.addTicket(block, answer) : answer;
        }

        /** The resource that was bound; NONE only for an application that has its share. */
        int bindForApplication(int environment, boolean block) {
            int answer = claim(environment, block);
            if (answer == WAITS) {
                moveTimeTo(earliestDeadline(block));
                answer = poolOf(block).bindFreeOne(environment);
            }
            return Math.max(answer, NONE);
        }

        /** How many bindings were taken because the time moved. */
        int moveTimeTo(int later) {
            now = later;
            return firstGuest.loseAllDue(now) + secondGuest.loseAllDue(now);
        }

        private int claim(int environment, boolean block) {
            Pool pool = poolOf(block);
            int resource = pool.bindFreeOne(environment);
            if (resource != NONE) {
                return resource;
            }
            if (pool.hasFullShare(environment)) {
                return REFUSED;
            }
            if (earliestDeadline(block) == NO_DEADLINE) {
                askRicherGuest(block);
            }
            return WAITS;
        }

        private void askRicherGuest(boolean block) {
            Pool pool = poolOf(block);
            int heldByFirst = pool.countHeldBy(FIRST_GUEST);
            int heldBySecond = pool.countHeldBy(SECOND_GUEST);
            Guest richer = heldByFirst >= heldBySecond ? firstGuest : secondGuest;
            richer.askForLastOf(block, now + GRACE);
        }

        private int earliestDeadline(boolean block) {
            return Math.min(firstGuest.earliestDeadline(block), secondGuest.earliestDeadline(block));
        }
    }

    /** A place of an application for one frame, and what lies in that frame. */
    private static final class Slot {
        int frame = NONE;
        int part = NONE;
        int lastUse;
        boolean changed;

        boolean isEmpty() {
            return frame == NONE;
        }
    }

    /** The library's files of one application. A part's number counts through all its files. */
    private static final class Application {
        int loadCount;
        int storeCount;
        private final Kernel kernel;
        private final int environment;
        private final int[] lengths = new int[FILES];
        private final int[] partBlocks = new int[FILES * PARTS];
        private final Slot[] slots = new Slot[FRAME_SHARE];
        private int useCount;

        Application(Kernel kernel, int environment) {
            this.kernel = kernel;
            this.environment = environment;
            Arrays.fill(partBlocks, NONE);
            for (int i = 0; i < slots.length; i++) {
                slots[i] = new Slot();
            }
        }

        boolean appendWord(int file, int word) {
            if (!isFile(file) || !makeRoomForWord(file)) {
                return false;
            }
            int i = lengths[file];
            lengths[file]++;
            return changeWord(openPartOf(file, i), i, word);
        }

        boolean writeWord(int file, int i, int word) {
            return changeWord(openPartOf(file, i), i, word);
        }

        int readWord(int file, int i) {
            Slot slot = openPartOf(file, i);
            return slot == null ? 0 : kernel.frames.wordAt(slot.frame, i % WORDS);
        }

        int lengthOf(int file) {
            return isFile(file) ? lengths[file] : NONE;
        }

        int eraseFile(int file) {
            if (!isFile(file)) {
                return NONE;
            }
            int ended = 0;
            for (int part = file * PARTS; part < (file + 1) * PARTS; part++) {
                if (partBlocks[part] != NONE) {
                    dropPart(part);
                    ended++;
                }
            }
            lengths[file] = 0;
            return ended;
        }

        int storeAllChanged() {
            int before = storeCount;
            for (Slot slot : slots) {
                storeIfChanged(slot);
            }
            return storeCount - before;
        }

        boolean giveUpOldestFrame() {
            Slot slot = oldestSlot();
            if (slot == null) {
                return false;
            }
            storeIfChanged(slot);
            giveFrameBack(slot);
            return true;
        }

        private static boolean isFile(int file) {
            return file >= 0 && file < FILES;
        }

        private boolean makeRoomForWord(int file) {
            if (lengths[file] % WORDS != 0) {
                return true;
            }
            int partOfFile = lengths[file] / WORDS;
            if (partOfFile >= PARTS || kernel.blocks.hasFullShare(environment)) {
                return false;
            }
            int block = kernel.bindForApplication(environment, true);
            partBlocks[file * PARTS + partOfFile] = block;
            return block != NONE;
        }

        private boolean changeWord(Slot slot, int i, int word) {
            if (slot == null) {
                return false;
            }
            slot.changed = true;
            return kernel.frames.setWord(slot.frame, i % WORDS, word);
        }

        /** Null, with nothing opened, when there is no such word. */
        private Slot openPartOf(int file, int i) {
            if (!isFile(file) || i < 0 || i >= lengths[file]) {
                return null;
            }
            int part = file * PARTS + i / WORDS;
            Slot slot = slotFor(part);
            if (slot == null) {
                return null;
            }
            if (slot.isEmpty()) {
                slot.frame = kernel.bindForApplication(environment, false);
            }
            if (slot.part != part) {
                storeIfChanged(slot);
                load(slot, part);
            }
            useCount++;
            slot.lastUse = useCount;
            return slot;
        }

        private Slot slotFor(int part) {
            Slot slot = slotOf(part);
            if (slot == null) {
                // No part lies in an empty slot.
                slot = slotOf(NONE);
            }
            return slot == null ? oldestSlot() : slot;
        }

        private Slot slotOf(int part) {
            for (Slot slot : slots) {
                if (slot.part == part) {
                    return slot;
                }
            }
            return null;
        }

        private Slot oldestSlot() {
            Slot oldest = null;
            for (Slot slot : slots) {
                if (!slot.isEmpty() && (oldest == null || slot.lastUse < oldest.lastUse)) {
                    oldest = slot;
                }
            }
            return oldest;
        }

        private void load(Slot slot, int part) {
            kernel.frames.takeWordsFrom(kernel.blocks, blockOf(part), slot.frame);
            slot.part = part;
            slot.changed = false;
            loadCount++;
        }

        private void storeIfChanged(Slot slot) {
            if (!slot.changed) {
                return;
            }
            kernel.blocks.takeWordsFrom(kernel.frames, slot.frame, blockOf(slot.part));
            slot.changed = false;
            storeCount++;
        }

        private int blockOf(int part) {
            return part >= 0 && part < partBlocks.length ? partBlocks[part] : NONE;
        }

        private void dropPart(int part) {
            Slot slot = slotOf(part);
            if (slot != null) {
                giveFrameBack(slot);
            }
            kernel.blocks.endBinding(partBlocks[part]);
            partBlocks[part] = NONE;
        }

        private void giveFrameBack(Slot slot) {
            kernel.frames.endBinding(slot.frame);
            slot.frame = NONE;
            slot.part = NONE;
            slot.changed = false;
        }
    }
}
