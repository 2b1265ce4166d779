/** What the document says of claims: when they are refused, when they wait, and who is asked. */
public final class ClaimsTest {
    private static final int REFUSED = BindingKernel.REFUSED;
    private static final int WAITS = BindingKernel.WAITS;
    private static final Checks CHECKS = new Checks("ClaimsTest");

    public static void main(String[] args) {
        for (int kind = 0; kind < 2; kind++) {
            boolean block = kind == 1;
            claimBeyondTheShareIsRefused(block);
            claimBelowTheShareWaits(block);
            theLastBindingOfTheKindIsAskedFor(block);
            theGuestThatHoldsMoreIsAsked(block);
            guestTwoIsAskedWhenBothHoldAsMany(block);
            nothingIsAskedForTwice(block);
            anAskedBindingIsTakenThoughNoneNeedsIt(block);
            theSixtiethBindingCanBeAskedFor(block);
        }
        kindsAreAskedForApart();
        anApplicationWaitsForTheEarliestDeadlineOfTheKind();
        whileAnApplicationWaitsOtherDeadlinesPass();
        anApplicationUsesWhatItsReleaseMadeFree();
        readAndWriteWaitToo();
        CHECKS.end();
    }

    private static int sizeOf(boolean block) {
        return block ? 24 : 12;
    }

    private static int shareOf(boolean block) {
        return block ? 6 : 3;
    }

    private static void bindMany(BindingKernel x, int guest, boolean block, int count) {
        for (int i = 0; i < count; i++) {
            CHECKS.due("bind while something is free", x.bind(guest, block) >= 0, true);
        }
    }

    private static void noneIsAskedFor(BindingKernel x, int guest, int tickets) {
        for (int ticket = 0; ticket < tickets; ticket++) {
            CHECKS.due("state of ticket " + ticket + " of " + guest, x.state(guest, ticket), 2);
        }
    }

    private static void claimBeyondTheShareIsRefused(boolean block) {
        BindingKernel x = new BindingKernel();
        int rest = sizeOf(block) - shareOf(block);
        bindMany(x, 2, block, rest);
        bindMany(x, 3, block, shareOf(block));
        CHECKS.due("claim with a share held", x.bind(3, block), REFUSED);
        CHECKS.due("claim with more than a share held", x.bind(2, block), REFUSED);
        noneIsAskedFor(x, 2, rest);
        noneIsAskedFor(x, 3, shareOf(block));
        CHECKS.due("nothing is taken", x.pass(50), 0);
        CHECKS.due("no ticket was spent", x.state(3, shareOf(block)), BindingKernel.NONE);
        CHECKS.due("the other kind is free", x.bind(3, !block), shareOf(block));
    }

    private static void claimBelowTheShareWaits(boolean block) {
        BindingKernel x = new BindingKernel();
        int share = shareOf(block);
        bindMany(x, 2, block, sizeOf(block) - share + 1);
        bindMany(x, 3, block, share - 1);
        CHECKS.due("claim one below the share", x.bind(3, block), WAITS);
        CHECKS.due("time stands still", x.time(), 0);
        CHECKS.due("nothing is free", x.free(block), 0);
        CHECKS.due("the richer guest is asked", x.state(2, sizeOf(block) - share), 3);
        CHECKS.due("the claimer's own are not", x.state(3, share - 2), 2);
        CHECKS.due("before the deadline", x.pass(4), 0);
        CHECKS.due("claim again", x.bind(3, block), WAITS);
        CHECKS.due("at the deadline", x.pass(1), 1);
        CHECKS.due("one is free", x.free(block), 1);
        CHECKS.due("claim when one is free", x.bind(3, block), share - 1);
        CHECKS.due("claim with the share held", x.bind(3, block), REFUSED);
    }

    private static void theLastBindingOfTheKindIsAskedFor(boolean block) {
        BindingKernel x = new BindingKernel();
        int size = sizeOf(block);
        bindMany(x, 2, block, size);
        bindMany(x, 2, !block, 2);
        x.release(2, 0);
        CHECKS.due("the freed one is bound again", x.bind(2, block), size + 2);
        bindMany(x, 2, !block, 1);
        CHECKS.due("claim", x.bind(3, block), WAITS);
        CHECKS.due("the binding made last", x.state(2, size + 2), 3);
        CHECKS.due("not the one before", x.state(2, size - 1), 2);
        CHECKS.due("not the other kind", x.state(2, size + 3), 2);
        CHECKS.due("the asked one is given back", x.release(2, size + 2), true);
        CHECKS.due("claim of the other guest", x.bind(3, block), 0);
        CHECKS.due("claim of the other guest", x.bind(3, block), WAITS);
        CHECKS.due("the last that is live", x.state(2, size - 1), 3);
    }

    private static void theGuestThatHoldsMoreIsAsked(boolean block) {
        BindingKernel x = new BindingKernel();
        int half = sizeOf(block) / 2;
        bindMany(x, 2, !block, 8);
        bindMany(x, 2, block, half - 1);
        bindMany(x, 3, block, half + 1);
        claimByApplication(x, block, 0);
        CHECKS.due("guest 3 lost its last", x.state(3, half), 1);
        CHECKS.due("guest 2 did not", x.state(2, half + 6), 2);
        CHECKS.due("losses of 3", x.losses(3), 1);
        CHECKS.due("losses of 2", x.losses(2), 0);
        CHECKS.due("time", x.time(), 5);
    }

    /** By an append to an empty file: it claims one of each kind, and the other kind is not scarce. */
    private static void claimByApplication(BindingKernel x, boolean block, int name) {
        int before = x.held(1, block);
        CHECKS.due("append", x.append(1, name, 1), true);
        CHECKS.due("held by the application", x.held(1, block), before + 1);
    }

    private static void guestTwoIsAskedWhenBothHoldAsMany(boolean block) {
        BindingKernel x = new BindingKernel();
        int half = sizeOf(block) / 2;
        bindMany(x, 2, block, half);
        bindMany(x, 3, block, half);
        claimByApplication(x, block, 0);
        CHECKS.due("guest 2 lost its last", x.state(2, half - 1), 1);
        CHECKS.due("guest 3 did not", x.state(3, half - 1), 2);
        claimByApplication(x, block, 1);
        CHECKS.due("then guest 3 holds more", x.state(3, half - 1), 1);
        CHECKS.due("time", x.time(), 10);
    }

    private static void nothingIsAskedForTwice(boolean block) {
        BindingKernel x = new BindingKernel();
        int last = sizeOf(block) - 1;
        bindMany(x, 2, block, last);
        bindMany(x, 3, block, 1);
        CHECKS.due("ask for one", x.ask(2, 4), true);
        x.pass(2);
        CHECKS.due("claim", x.bind(3, block), WAITS);
        CHECKS.due("no other is asked for", x.state(2, last - 1), 2);
        x.pass(3);
        CHECKS.due("the asked one is taken", x.state(2, 4), 1);
        CHECKS.due("claim", x.bind(3, block), 1);
        CHECKS.due("the claimer's own is asked for", x.ask(3, 0), true);
        x.release(3, 1);
        x.bind(2, block);
        CHECKS.due("claim of the guest that is asked", x.bind(3, block), WAITS);
        CHECKS.due("no other is asked for", x.state(2, last), 2);
    }

    private static void anAskedBindingIsTakenThoughNoneNeedsIt(boolean block) {
        BindingKernel x = new BindingKernel();
        int size = sizeOf(block);
        bindMany(x, 2, block, size);
        CHECKS.due("claim", x.bind(3, block), WAITS);
        x.release(2, 0);
        CHECKS.due("claim after a release", x.bind(3, block), 0);
        CHECKS.due("still asked for", x.state(2, size - 1), 3);
        CHECKS.due("taken all the same", x.pass(5), 1);
        CHECKS.due("free", x.free(block), 1);
    }

    private static void theSixtiethBindingCanBeAskedFor(boolean block) {
        BindingKernel x = new BindingKernel();
        int ended = 60 - sizeOf(block);
        for (int ticket = 0; ticket < ended; ticket++) {
            x.bind(2, block);
            x.release(2, ticket);
        }
        bindMany(x, 2, block, sizeOf(block));
        CHECKS.due("claim of the other guest", x.bind(3, block), WAITS);
        CHECKS.due("the last of 60 is asked for", x.state(2, 59), 3);
        CHECKS.due("the one before is not", x.state(2, 58), 2);
        claimByApplication(x, block, 0);
        CHECKS.due("the last of 60 was taken", x.state(2, 59), 1);
        claimByApplication(x, block, 1);
        CHECKS.due("the one before was taken", x.state(2, 58), 1);
        CHECKS.due("time", x.time(), 10);
    }

    private static void kindsAreAskedForApart() {
        BindingKernel x = new BindingKernel();
        bindMany(x, 2, false, 12);
        bindMany(x, 2, true, 24);
        CHECKS.due("claim of a frame", x.bind(3, false), WAITS);
        x.pass(1);
        CHECKS.due("claim of a block", x.bind(3, true), WAITS);
        CHECKS.due("a frame is asked for", x.state(2, 11), 3);
        CHECKS.due("a block is asked for", x.state(2, 35), 3);
        CHECKS.due("at the deadline of the frame", x.pass(4), 1);
        CHECKS.due("at the deadline of the block", x.pass(1), 1);
    }

    private static void anApplicationWaitsForTheEarliestDeadlineOfTheKind() {
        BindingKernel x = new BindingKernel();
        bindMany(x, 2, false, 6);
        bindMany(x, 3, false, 6);
        x.bind(2, true);
        x.ask(2, 6);
        x.pass(2);
        x.ask(3, 1);
        x.pass(1);
        x.ask(2, 2);
        x.ask(2, 0);
        CHECKS.due("append", x.append(0, 0, 1), true);
        CHECKS.due("time of the earliest frame", x.time(), 7);
        CHECKS.due("the earliest frame", x.state(3, 1), 1);
        CHECKS.due("a later frame", x.state(2, 2), 3);
        CHECKS.due("the block whose deadline passed", x.state(2, 6), 1);
        CHECKS.due("append again", x.append(0, 1, 1), true);
        CHECKS.due("time of the next frames", x.time(), 8);
        CHECKS.due("both frames of that time are taken", x.losses(2), 3);
        CHECKS.due("one of them is left", x.free(false), 1);
        CHECKS.due("append without waiting", x.append(0, 2, 1), true);
        CHECKS.due("time", x.time(), 8);
    }

    private static void whileAnApplicationWaitsOtherDeadlinesPass() {
        BindingKernel x = new BindingKernel();
        bindMany(x, 2, true, 24);
        x.bind(3, false);
        x.ask(3, 0);
        CHECKS.due("append that waits for a block", x.append(1, 0, 1), true);
        CHECKS.due("the frame of the other guest was taken", x.state(3, 0), 1);
        CHECKS.due("losses of 3", x.losses(3), 1);
        CHECKS.due("losses of 2", x.losses(2), 1);
        CHECKS.due("losses of the application", x.losses(1), 0);
    }

    private static void anApplicationUsesWhatItsReleaseMadeFree() {
        BindingKernel x = new BindingKernel();
        x.append(0, 0, 1);
        bindMany(x, 2, false, 11);
        x.squeeze(0);
        CHECKS.due("read with one frame free", x.read(0, 0, 0), 1);
        CHECKS.due("no waiting", x.time(), 0);
        x.append(1, 0, 2);
        CHECKS.due("waiting", x.time(), 5);
        x.squeeze(0);
        x.append(1, 1, 3);
        CHECKS.due("no more waiting", x.time(), 5);
        CHECKS.due("losses", x.losses(2), 1);
    }

    private static void readAndWriteWaitToo() {
        BindingKernel x = new BindingKernel();
        x.append(0, 0, 41);
        x.append(0, 1, 42);
        x.squeeze(0);
        x.squeeze(0);
        bindMany(x, 3, false, 12);
        for (int ticket = 0; ticket < 12; ticket++) {
            x.put(3, ticket, 0, 99);
        }
        CHECKS.due("read that waits", x.read(0, 0, 0), 41);
        CHECKS.due("time after the read", x.time(), 5);
        CHECKS.due("write that waits", x.write(0, 1, 0, 43), true);
        CHECKS.due("time after the write", x.time(), 10);
        CHECKS.due("read what was written", x.read(0, 1, 0), 43);
        CHECKS.due("losses", x.losses(3), 2);
        CHECKS.due("frames of the guest", x.held(3, false), 10);
    }
}
