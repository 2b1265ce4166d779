/** Boundary cases that 'Terms' names of claims: a method for each sentence. */
public final class ClaimBoundsTest {
    private static final int NONE = BindingKernel.NONE;
    private static final int REFUSED = BindingKernel.REFUSED;
    private static final int WAITS = BindingKernel.WAITS;
    private static final Checks CHECKS = new Checks("ClaimBoundsTest");

    public static void main(String[] args) {
        for (boolean block : Scenes.KINDS) {
            aFreeOneIsBoundBeyondTheShare(block);
            theLastFreeOneIsBoundAndNothingIsAskedFor(block);
            theShareIsTheBoundOfRefusing(block);
            aRefusedClaimAsksForNothing(block);
            aClaimIsRefusedThoughOneIsAskedForAlready(block);
            oneThatIsAskedForAlreadyIsEnough(block);
            oneThatWasAskedForAndEndedIsNotEnough(block);
            oneOfTheOtherKindIsNotEnough(block);
            theGuestThatHoldsMoreIsAsked(block);
            theOtherKindDoesNotCount(block);
            whatEndedDoesNotCount(block);
            theOneBoundLastIsAskedFor(block);
            aWaitingGuestHasNothing(block);
            anApplicationWaitsForTheEarliest(block, 2, 3);
            anApplicationWaitsForTheEarliest(block, 3, 2);
            anApplicationWaitsUntilTheDeadlineAndNotLonger(block);
            whatIsFreeBesidesStaysFree(block);
        }
        anApplicationClaimsFramesUpToItsShare();
        anApplicationClaimsBlocksUpToItsShare();
        CHECKS.end();
    }

    private static int other(int guest) {
        return 5 - guest;
    }

    /** All of the kind are bound: some to one guest, the rest to the other. */
    private static BindingKernel full(boolean block, int guest, int count) {
        BindingKernel x = new BindingKernel();
        Scenes.bindMany(x, guest, block, count);
        Scenes.bindMany(x, other(guest), block, Scenes.sizeOf(block) - count);
        return x;
    }

    /** By the first word of a file: a claim of each kind, and the other kind is not scarce. */
    private static void claimByApplication(BindingKernel x, int app, int name, boolean block) {
        int before = x.held(app, block);
        CHECKS.due("append", x.append(app, name, 1), true);
        CHECKS.due("one more is held", x.held(app, block), before + 1);
    }

    private static int countAsked(BindingKernel x) {
        int count = 0;
        for (int guest = 2; guest < 4; guest++) {
            for (int ticket = 0; ticket < 60; ticket++) {
                count += x.state(guest, ticket) == 3 ? 1 : 0;
            }
        }
        return count;
    }

    private static void aFreeOneIsBoundBeyondTheShare(boolean block) {
        CHECKS.about("If one of that kind is free, one is bound to it.");
        int size = Scenes.sizeOf(block);
        BindingKernel x = Scenes.withKind(block, size - 1, 0);
        CHECKS.due("the last free one, far beyond the share", x.bind(2, block), size - 1);
        x.release(2, 0);
        CHECKS.due("one that came free, beyond the share", x.bind(2, block), size);
        CHECKS.due("held", x.held(2, block), size);
        CHECKS.due("nothing is asked for", countAsked(x), 0);
    }

    private static void theLastFreeOneIsBoundAndNothingIsAskedFor(boolean block) {
        CHECKS.about("If one of that kind is free, one is bound to it.");
        int size = Scenes.sizeOf(block);
        BindingKernel x = Scenes.withKind(block, size - 1, 0);
        CHECKS.due("the last free one, below the share", x.bind(3, block), 0);
        CHECKS.due("nothing is asked for", countAsked(x), 0);
        BindingKernel y = Scenes.withKind(block, size - 1, 0);
        claimByApplication(y, 0, 0, block);
        CHECKS.due("the application does not wait", y.time(), 0);
        CHECKS.due("nothing is asked for", countAsked(y), 0);
        CHECKS.due("nothing is free", y.free(block), 0);
    }

    private static void theShareIsTheBoundOfRefusing(boolean block) {
        CHECKS.about("if it holds as many of the kind as its share or more, the claim is REFUSED");
        int share = Scenes.shareOf(block);
        for (int guest = 2; guest < 4; guest++) {
            for (int held = 0; held <= share + 2; held++) {
                BindingKernel x = full(block, guest, held);
                int due = held < share ? WAITS : REFUSED;
                CHECKS.due("claim of guest " + guest + " with " + held, x.bind(guest, block), due);
                CHECKS.due("asked for", countAsked(x), held < share ? 1 : 0);
                CHECKS.due("no ticket was given", x.state(guest, held), NONE);
            }
            BindingKernel y = full(block, guest, Scenes.sizeOf(block));
            CHECKS.due("claim of one that holds all", y.bind(guest, block), REFUSED);
        }
    }

    private static void aRefusedClaimAsksForNothing(boolean block) {
        CHECKS.about("A call that is refused changes nothing");
        BindingKernel x = full(block, 3, Scenes.shareOf(block));
        CHECKS.due("claim", x.bind(3, block), REFUSED);
        CHECKS.due("claim", x.bind(2, block), REFUSED);
        CHECKS.due("asked for", countAsked(x), 0);
        CHECKS.due("taken", x.pass(50), 0);
    }

    private static void aClaimIsRefusedThoughOneIsAskedForAlready(boolean block) {
        CHECKS.about("if it holds as many of the kind as its share or more, the claim is REFUSED");
        BindingKernel x = full(block, 3, Scenes.shareOf(block));
        x.ask(2, 0);
        CHECKS.due("claim with a share", x.bind(3, block), REFUSED);
        CHECKS.due("claim with more than a share", x.bind(2, block), REFUSED);
        CHECKS.due("asked for", countAsked(x), 1);
        x.ask(3, 0);
        CHECKS.due("claim with a share, one of them asked for", x.bind(3, block), REFUSED);
        x.pass(5);
        CHECKS.due("claim when both were taken", x.bind(3, block), Scenes.shareOf(block));
    }

    private static void oneThatIsAskedForAlreadyIsEnough(boolean block) {
        CHECKS.about("unless some binding of that kind is asked for already");
        for (int claimer = 2; claimer < 4; claimer++) {
            BindingKernel x = full(block, claimer, 1);
            x.ask(other(claimer), 2);
            CHECKS.due("claim, one of the other guest is asked for", x.bind(claimer, block), WAITS);
            CHECKS.due("asked for", countAsked(x), 1);
            CHECKS.due("claim again", x.bind(claimer, block), WAITS);
            CHECKS.due("asked for", countAsked(x), 1);
            BindingKernel y = full(block, claimer, 1);
            y.ask(claimer, 0);
            CHECKS.due("claim, the claimer's own is asked for", y.bind(claimer, block), WAITS);
            CHECKS.due("asked for", countAsked(y), 1);
            y.pass(3);
            claimByApplication(y, 1, 0, block);
            CHECKS.due("an application waits for that one", y.time(), 5);
            CHECKS.due("it was taken", y.state(claimer, 0), 1);
            CHECKS.due("asked for", countAsked(y), 0);
        }
    }

    private static void oneThatWasAskedForAndEndedIsNotEnough(boolean block) {
        CHECKS.about("unless some binding of that kind is asked for already");
        int size = Scenes.sizeOf(block);
        BindingKernel x = Scenes.withKind(block, size, 0);
        x.ask(2, 0);
        x.release(2, 0);
        CHECKS.due("the freed one is bound again", x.bind(2, block), size);
        CHECKS.due("claim after a release of the asked one", x.bind(3, block), WAITS);
        CHECKS.due("the last is asked for", x.state(2, size), 3);
        x.pass(5);
        CHECKS.due("the taken one is bound again", x.bind(2, block), size + 1);
        CHECKS.due("claim after a taking of the asked one", x.bind(3, block), WAITS);
        CHECKS.due("the last is asked for", x.state(2, size + 1), 3);
        CHECKS.due("asked for", countAsked(x), 1);
    }

    private static void oneOfTheOtherKindIsNotEnough(boolean block) {
        CHECKS.about("unless some binding of that kind is asked for already");
        BindingKernel x = new BindingKernel();
        x.bind(2, !block);
        Scenes.bindMany(x, 2, block, Scenes.sizeOf(block));
        x.ask(2, 0);
        CHECKS.due("claim", x.bind(3, block), WAITS);
        CHECKS.due("the last of the kind is asked for", x.state(2, Scenes.sizeOf(block)), 3);
        CHECKS.due("asked for", countAsked(x), 2);
    }

    private static void theGuestThatHoldsMoreIsAsked(boolean block) {
        CHECKS.about("of the guest that holds more of that kind than the other guest "
                + "(guest 2 when both hold as many)");
        int half = Scenes.sizeOf(block) / 2;
        for (int more = -1; more <= 1; more++) {
            BindingKernel x = full(block, 2, half + more);
            int asked = more >= 0 ? 2 : 3;
            claimByApplication(x, 0, 0, block);
            CHECKS.due("losses of 2 with " + more + " more than guest 3", x.losses(2), asked == 2 ? 1 : 0);
            CHECKS.due("losses of 3 with " + more + " less than guest 2", x.losses(3), asked == 3 ? 1 : 0);
            CHECKS.due("its last was taken", x.state(asked, x.held(asked, block)), 1);
        }
    }

    private static void theOtherKindDoesNotCount(boolean block) {
        CHECKS.about("holds more of that kind");
        int half = Scenes.sizeOf(block) / 2;
        BindingKernel x = full(block, 2, half - 1);
        Scenes.bindMany(x, 2, !block, 6);
        claimByApplication(x, 0, 0, block);
        CHECKS.due("losses of 2", x.losses(2), 0);
        CHECKS.due("losses of 3", x.losses(3), 1);
        BindingKernel y = full(block, 2, half);
        Scenes.bindMany(y, 3, !block, 6);
        claimByApplication(y, 0, 0, block);
        CHECKS.due("losses of 2", y.losses(2), 1);
        CHECKS.due("losses of 3", y.losses(3), 0);
    }

    private static void whatEndedDoesNotCount(boolean block) {
        CHECKS.about("of the guest that holds more");
        int half = Scenes.sizeOf(block) / 2;
        BindingKernel x = new BindingKernel();
        Scenes.spendTickets(x, 2, block, 10);
        Scenes.bindMany(x, 2, block, half - 1);
        Scenes.bindMany(x, 3, block, half + 1);
        claimByApplication(x, 1, 0, block);
        CHECKS.due("losses of the guest that had more", x.losses(2), 0);
        CHECKS.due("losses of the guest that holds more", x.losses(3), 1);
    }

    private static void theOneBoundLastIsAskedFor(boolean block) {
        CHECKS.about("the binding of that kind that was bound last");
        int size = Scenes.sizeOf(block);
        BindingKernel x = Scenes.withKind(block, size, 0);
        x.release(2, 0);
        x.bind(2, block);
        x.bind(2, !block);
        CHECKS.due("claim", x.bind(3, block), WAITS);
        for (int ticket = 1; ticket < size; ticket++) {
            CHECKS.due("one bound before", x.state(2, ticket), 2);
        }
        CHECKS.due("the one bound last", x.state(2, size), 3);
        CHECKS.due("the other kind", x.state(2, size + 1), 2);
        x.release(2, 5);
        CHECKS.due("claim when one came free", x.bind(3, block), 0);
        x.pass(5);
        CHECKS.due("claim when one was taken", x.bind(3, block), 1);
        CHECKS.due("claim", x.bind(3, block), WAITS);
        CHECKS.due("now the last that is live", x.state(2, size - 1), 3);
        CHECKS.due("asked for", countAsked(x), 1);
    }

    private static void aWaitingGuestHasNothing(boolean block) {
        CHECKS.about("When the claim of a guest waits, nothing more happens; "
                + "the guest may claim again later.");
        int size = Scenes.sizeOf(block);
        BindingKernel x = Scenes.withKind(block, size, 0);
        CHECKS.due("claim", x.bind(3, block), WAITS);
        CHECKS.due("time", x.time(), 0);
        CHECKS.due("held", x.held(3, block), 0);
        CHECKS.due("free", x.free(block), 0);
        CHECKS.due("no ticket", x.state(3, 0), NONE);
        x.pass(5);
        CHECKS.due("nothing was bound to the one that waited", x.held(3, block), 0);
        CHECKS.due("what came free is kept for nobody", x.bind(2, block), size);
        CHECKS.due("the one that waited claims again", x.bind(3, block), WAITS);
        x.pass(5);
        CHECKS.due("and once more", x.bind(3, block), 0);
    }

    private static void anApplicationWaitsForTheEarliest(boolean block, int early, int late) {
        CHECKS.about("the time moves to the earliest deadline of the bindings of that kind "
                + "that are asked for");
        int half = Scenes.sizeOf(block) / 2;
        BindingKernel x = full(block, 2, half);
        int otherKind = x.bind(late, !block);
        x.ask(late, otherKind);
        x.pass(1);
        x.ask(early, 4);
        x.pass(1);
        x.ask(late, 1);
        x.ask(early, 2);
        x.pass(1);
        claimByApplication(x, 0, 0, block);
        CHECKS.due("time of the earliest", x.time(), 6);
        CHECKS.due("the earliest", x.state(early, 4), 1);
        CHECKS.due("a later one of the same guest", x.state(early, 2), 3);
        CHECKS.due("a later one of the other guest", x.state(late, 1), 3);
        CHECKS.due("one of the other kind that was due before", x.state(late, otherKind), 1);
        claimByApplication(x, 1, 0, block);
        CHECKS.due("time of the next", x.time(), 7);
        CHECKS.due("both of that time were taken", x.losses(early) + x.losses(late), 4);
    }

    private static void anApplicationWaitsUntilTheDeadlineAndNotLonger(boolean block) {
        CHECKS.about("the time moves to the earliest deadline");
        for (int waited = 0; waited < 5; waited++) {
            BindingKernel x = Scenes.withKind(block, Scenes.sizeOf(block), 0);
            x.pass(10);
            x.ask(2, 0);
            if (waited > 0) {
                x.pass(waited);
            }
            claimByApplication(x, 1, 5, block);
            CHECKS.due("time, the asking was " + waited + " ago", x.time(), 15);
            CHECKS.due("losses", x.losses(2), 1);
            CHECKS.due("free", x.free(block), 0);
        }
    }

    private static void whatIsFreeBesidesStaysFree(boolean block) {
        CHECKS.about("after that one is free, and one is bound to the application");
        BindingKernel x = Scenes.withKind(block, Scenes.sizeOf(block), 0);
        x.ask(2, 0);
        x.ask(2, 5);
        x.ask(2, 7);
        claimByApplication(x, 0, 0, block);
        CHECKS.due("three were taken and one was bound", x.free(block), 2);
        CHECKS.due("losses", x.losses(2), 3);
        CHECKS.due("time", x.time(), 5);
        claimByApplication(x, 0, 1, block);
        CHECKS.due("no more waiting", x.time(), 5);
        CHECKS.due("free", x.free(block), 1);
    }

    private static void anApplicationClaimsFramesUpToItsShare() {
        CHECKS.about("The SHARE of every environment is 3 frames and 6 blocks");
        for (int app = 0; app < 2; app++) {
            BindingKernel x = Scenes.withKind(false, 12, 0);
            for (int name = 0; name < 6; name++) {
                CHECKS.due("append", x.append(app, name, 1), true);
                int frames = Math.min(3, name + 1);
                CHECKS.due("frames with " + name, x.held(app, false), frames);
                CHECKS.due("time", x.time(), 5 * frames);
                CHECKS.due("losses", x.losses(2), frames);
            }
        }
    }

    private static void anApplicationClaimsBlocksUpToItsShare() {
        CHECKS.about("The SHARE of every environment is 3 frames and 6 blocks");
        for (int app = 0; app < 2; app++) {
            BindingKernel x = Scenes.withKind(true, 24, 0);
            for (int word = 0; word < 24; word++) {
                CHECKS.due("append", x.append(app, 0, 1), true);
                int blocks = word / 4 + 1;
                CHECKS.due("blocks", x.held(app, true), blocks);
                CHECKS.due("time", x.time(), 5 * blocks);
            }
            CHECKS.due("a seventh block", x.append(app, 0, 1), false);
            CHECKS.due("is not waited for", x.time(), 30);
            CHECKS.due("nor asked for", countAsked(x), 0);
            CHECKS.due("losses", x.losses(2), 6);
        }
    }
}
