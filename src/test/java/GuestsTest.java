/** Promises 9 to 15: the tickets of the guests. */
public final class GuestsTest {
    private static final int NONE = BindingKernel.NONE;
    private static final int[] NO_GUESTS = {-1, 0, 1, 4, Integer.MIN_VALUE, Integer.MAX_VALUE};
    private static final int[] NO_TICKETS = {-1, 3, 59, 60, 61, Integer.MIN_VALUE, Integer.MAX_VALUE};
    private static final Checks CHECKS = new Checks("GuestsTest");

    public static void main(String[] args) {
        bindGivesTicketsInOrder();
        bindClearsTheWords();
        bindEndsAfterSixtyBindings();
        bindWithoutTicketsLeftIsNoClaim();
        putAndGetUseTheFrame();
        putAndGetNeedALiveFrame();
        copyGoesBothWays();
        copyNeedsTwoKindsAndLiveTickets();
        releaseGivesBack();
        releaseOfAnAskedBindingIsNoLoss();
        askGivesFiveOfTime();
        askIsRefused();
        stateTellsWhatBecame();
        wrongGuestsAndTicketsAreRefused();
        CHECKS.end();
    }

    private static void bindGivesTicketsInOrder() {
        BindingKernel x = new BindingKernel();
        CHECKS.due("first frame of 2", x.bind(2, false), 0);
        CHECKS.due("first block of 2", x.bind(2, true), 1);
        CHECKS.due("first block of 3", x.bind(3, true), 0);
        CHECKS.due("second block of 2", x.bind(2, true), 2);
        CHECKS.due("release", x.release(2, 1), true);
        CHECKS.due("tickets are not used again", x.bind(2, true), 3);
        CHECKS.due("first frame of 3", x.bind(3, false), 1);
        CHECKS.due("frames of 2", x.held(2, false), 1);
        CHECKS.due("blocks of 2", x.held(2, true), 2);
        CHECKS.due("frames of 3", x.held(3, false), 1);
        CHECKS.due("blocks of 3", x.held(3, true), 1);
        CHECKS.due("free frames", x.free(false), 10);
        CHECKS.due("free blocks", x.free(true), 21);
        for (int guest : NO_GUESTS) {
            CHECKS.due("bind of a frame by " + guest, x.bind(guest, false), NONE);
            CHECKS.due("bind of a block by " + guest, x.bind(guest, true), NONE);
        }
        CHECKS.due("free frames after refused binds", x.free(false), 10);
        CHECKS.due("free blocks after refused binds", x.free(true), 21);
    }

    private static void bindClearsTheWords() {
        BindingKernel x = new BindingKernel();
        for (int ticket = 0; ticket < 12; ticket++) {
            x.bind(2, false);
            for (int i = 0; i < 4; i++) {
                x.put(2, ticket, i, 7 + i);
            }
        }
        for (int ticket = 12; ticket < 36; ticket++) {
            x.bind(2, true);
            x.copy(2, 0, ticket);
        }
        x.release(2, 3);
        x.release(2, 20);
        int frame = x.bind(3, false);
        int block = x.bind(3, true);
        for (int i = 0; i < 4; i++) {
            CHECKS.due("word of a new frame", x.get(3, frame, i), 0);
            x.put(3, frame, i, 1);
        }
        x.copy(3, block, frame);
        for (int i = 0; i < 4; i++) {
            CHECKS.due("word of a new block", x.get(3, frame, i), 0);
            CHECKS.due("word of another frame", x.get(2, 0, i), 7 + i);
        }
    }

    private static void bindEndsAfterSixtyBindings() {
        BindingKernel x = new BindingKernel();
        for (int ticket = 0; ticket < 60; ticket++) {
            CHECKS.due("bind", x.bind(2, ticket % 2 == 0), ticket);
            if (ticket < 59) {
                CHECKS.due("release", x.release(2, ticket), true);
            }
        }
        CHECKS.due("a frame after 60 bindings", x.bind(2, false), NONE);
        CHECKS.due("a block after 60 bindings", x.bind(2, true), NONE);
        CHECKS.due("the last ticket", x.state(2, 59), 2);
        CHECKS.due("the ticket behind the last", x.state(2, 60), NONE);
        CHECKS.due("release of the last", x.release(2, 59), true);
        CHECKS.due("a frame when all 60 have ended", x.bind(2, false), NONE);
        CHECKS.due("the other guest", x.bind(3, false), 0);
        CHECKS.due("free frames", x.free(false), 11);
        CHECKS.due("free blocks", x.free(true), 24);
    }

    private static void bindWithoutTicketsLeftIsNoClaim() {
        BindingKernel x = new BindingKernel();
        for (int ticket = 0; ticket < 60; ticket++) {
            x.bind(3, false);
            x.release(3, ticket);
        }
        for (int ticket = 0; ticket < 12; ticket++) {
            x.bind(2, false);
        }
        CHECKS.due("bind after 60 bindings when none is free", x.bind(3, false), NONE);
        CHECKS.due("nothing was asked for", x.state(2, 11), 2);
        CHECKS.due("nothing is taken", x.pass(50), 0);
    }

    private static void putAndGetUseTheFrame() {
        BindingKernel x = new BindingKernel();
        x.bind(2, false);
        x.bind(2, false);
        x.bind(3, false);
        int[] words = {Integer.MAX_VALUE, Integer.MIN_VALUE, -1, 4};
        for (int i = 0; i < 4; i++) {
            CHECKS.due("put", x.put(2, 1, i, words[i]), true);
        }
        for (int i = 0; i < 4; i++) {
            CHECKS.due("get what was put", x.get(2, 1, i), words[i]);
            CHECKS.due("another frame of the guest", x.get(2, 0, i), 0);
            CHECKS.due("a frame of the other guest", x.get(3, 0, i), 0);
        }
        int[] noWords = {-1, 4, 5, Integer.MIN_VALUE, Integer.MAX_VALUE};
        for (int i : noWords) {
            CHECKS.due("put of word " + i, x.put(2, 1, i, 9), false);
            CHECKS.due("get of word " + i, x.get(2, 1, i), 0);
        }
        for (int i = 0; i < 4; i++) {
            CHECKS.due("get after refused puts", x.get(2, 1, i), words[i]);
            CHECKS.due("another frame after refused puts", x.get(2, 0, i), 0);
            CHECKS.due("the other guest's frame after refused puts", x.get(3, 0, i), 0);
        }
    }

    private static void putAndGetNeedALiveFrame() {
        BindingKernel x = new BindingKernel();
        x.bind(2, false);
        x.bind(2, true);
        x.bind(2, false);
        x.put(2, 0, 0, 5);
        x.copy(2, 0, 1);
        CHECKS.due("put to a block", x.put(2, 1, 0, 6), false);
        CHECKS.due("get of a block", x.get(2, 1, 0), 0);
        CHECKS.due("put by a guest that has no such ticket", x.put(3, 0, 0, 6), false);
        CHECKS.due("get by a guest that has no such ticket", x.get(3, 0, 0), 0);
        x.ask(2, 0);
        CHECKS.due("put to a frame that is asked for", x.put(2, 0, 1, 8), true);
        CHECKS.due("get of a frame that is asked for", x.get(2, 0, 1), 8);
        x.pass(5);
        CHECKS.due("put to a frame that was taken", x.put(2, 0, 1, 9), false);
        CHECKS.due("get of a frame that was taken", x.get(2, 0, 1), 0);
        x.put(2, 2, 0, 3);
        x.release(2, 2);
        CHECKS.due("put to a frame that was given back", x.put(2, 2, 0, 4), false);
        CHECKS.due("get of a frame that was given back", x.get(2, 2, 0), 0);
        x.bind(3, false);
        x.bind(3, false);
        CHECKS.due("put to a frame that another holds now", x.put(2, 0, 0, 4), false);
        CHECKS.due("the frame of the other", x.get(3, 0, 0) + x.get(3, 1, 0), 0);
    }

    private static void copyGoesBothWays() {
        BindingKernel x = new BindingKernel();
        x.bind(3, false);
        x.bind(3, true);
        x.bind(3, false);
        for (int i = 0; i < 4; i++) {
            x.put(3, 0, i, 10 + i);
        }
        CHECKS.due("copy to the block", x.copy(3, 0, 1), true);
        for (int i = 0; i < 4; i++) {
            CHECKS.due("the frame keeps its words", x.get(3, 0, i), 10 + i);
            x.put(3, 0, i, 20 + i);
        }
        CHECKS.due("copy from the block", x.copy(3, 1, 2), true);
        for (int i = 0; i < 4; i++) {
            CHECKS.due("word of the second frame", x.get(3, 2, i), 10 + i);
            CHECKS.due("word of the first frame", x.get(3, 0, i), 20 + i);
        }
        x.ask(3, 0);
        x.ask(3, 1);
        CHECKS.due("copy among bindings that are asked for", x.copy(3, 1, 0), true);
        CHECKS.due("word after that copy", x.get(3, 0, 3), 13);
        CHECKS.due("copies are no transfers of the library",
                x.transfers(true) + x.transfers(false), 0);
    }

    private static void copyNeedsTwoKindsAndLiveTickets() {
        BindingKernel x = new BindingKernel();
        x.bind(2, false);
        x.bind(2, false);
        x.bind(2, true);
        x.bind(2, true);
        x.bind(3, true);
        x.put(2, 0, 0, 1);
        CHECKS.due("frame to frame", x.copy(2, 0, 1), false);
        CHECKS.due("nothing was copied", x.get(2, 1, 0), 0);
        CHECKS.due("block to block", x.copy(2, 2, 3), false);
        CHECKS.due("frame to itself", x.copy(2, 0, 0), false);
        CHECKS.due("block to itself", x.copy(2, 2, 2), false);
        CHECKS.due("tickets of another guest", x.copy(3, 0, 2), false);
        CHECKS.due("to no ticket", x.copy(2, 0, 4), false);
        CHECKS.due("from no ticket", x.copy(2, 4, 0), false);
        CHECKS.due("to a ticket below 0", x.copy(2, 0, -1), false);
        CHECKS.due("from a ticket below 0", x.copy(2, -1, 0), false);
        x.release(2, 2);
        CHECKS.due("to a block that was given back", x.copy(2, 0, 2), false);
        CHECKS.due("from a block that was given back", x.copy(2, 2, 0), false);
        x.ask(2, 3);
        x.pass(5);
        CHECKS.due("to a block that was taken", x.copy(2, 0, 3), false);
        CHECKS.due("from a block that was taken", x.copy(2, 3, 0), false);
        CHECKS.due("the frame is as it was", x.get(2, 0, 0), 1);
    }

    private static void releaseGivesBack() {
        BindingKernel x = new BindingKernel();
        x.bind(2, false);
        x.bind(2, true);
        x.bind(3, true);
        CHECKS.due("release of the frame", x.release(2, 0), true);
        CHECKS.due("free frames", x.free(false), 12);
        CHECKS.due("held frames", x.held(2, false), 0);
        CHECKS.due("state", x.state(2, 0), 0);
        CHECKS.due("release again", x.release(2, 0), false);
        CHECKS.due("release of the block", x.release(2, 1), true);
        CHECKS.due("free blocks", x.free(true), 23);
        CHECKS.due("the other guest's block", x.state(3, 0), 2);
        CHECKS.due("no loss", x.losses(2), 0);
        CHECKS.due("release by a guest that has no such ticket", x.release(3, 1), false);
    }

    private static void releaseOfAnAskedBindingIsNoLoss() {
        BindingKernel x = new BindingKernel();
        x.bind(2, false);
        x.ask(2, 0);
        x.pass(4);
        CHECKS.due("release of what is asked for", x.release(2, 0), true);
        x.bind(3, false);
        CHECKS.due("nothing is taken", x.pass(50), 0);
        CHECKS.due("no loss", x.losses(2), 0);
        CHECKS.due("state", x.state(2, 0), 0);
        CHECKS.due("the frame's new holder keeps it", x.state(3, 0), 2);
        x.bind(2, true);
        x.ask(2, 1);
        x.pass(5);
        CHECKS.due("release of what was taken", x.release(2, 1), false);
        CHECKS.due("state of what was taken", x.state(2, 1), 1);
    }

    private static void askGivesFiveOfTime() {
        BindingKernel x = new BindingKernel();
        x.bind(2, false);
        x.bind(2, true);
        x.bind(3, true);
        x.pass(3);
        CHECKS.due("ask for a frame", x.ask(2, 0), true);
        x.pass(1);
        CHECKS.due("ask for a block", x.ask(3, 0), true);
        CHECKS.due("time does not move when asking", x.time(), 4);
        CHECKS.due("up to one before the deadline", x.pass(3), 0);
        CHECKS.due("still live", x.state(2, 0), 3);
        CHECKS.due("at the deadline", x.pass(1), 1);
        CHECKS.due("taken", x.state(2, 0), 1);
        CHECKS.due("the later one is still live", x.state(3, 0), 3);
        CHECKS.due("at the later deadline", x.pass(1), 1);
        CHECKS.due("the later one is taken", x.state(3, 0), 1);
        CHECKS.due("what was not asked for is not taken", x.state(2, 1), 2);
        CHECKS.due("losses of 2", x.losses(2), 1);
        CHECKS.due("losses of 3", x.losses(3), 1);
        CHECKS.due("free frames", x.free(false), 12);
        CHECKS.due("free blocks", x.free(true), 23);
    }

    private static void askIsRefused() {
        BindingKernel x = new BindingKernel();
        x.bind(2, false);
        x.bind(2, false);
        x.ask(2, 0);
        x.pass(2);
        CHECKS.due("ask again", x.ask(2, 0), false);
        CHECKS.due("the first deadline holds", x.pass(3), 1);
        CHECKS.due("ask for what was taken", x.ask(2, 0), false);
        CHECKS.due("state of what was taken", x.state(2, 0), 1);
        x.release(2, 1);
        CHECKS.due("ask for what was given back", x.ask(2, 1), false);
        CHECKS.due("state of what was given back", x.state(2, 1), 0);
        CHECKS.due("nothing more is taken", x.pass(50), 0);
    }

    private static void stateTellsWhatBecame() {
        BindingKernel x = new BindingKernel();
        for (int ticket = 0; ticket < 4; ticket++) {
            CHECKS.due("before bind", x.state(2, ticket), NONE);
            x.bind(2, ticket % 2 == 0);
            CHECKS.due("after bind", x.state(2, ticket), 2);
        }
        x.release(2, 0);
        x.ask(2, 1);
        x.pass(5);
        x.ask(2, 3);
        CHECKS.due("given back", x.state(2, 0), 0);
        CHECKS.due("taken", x.state(2, 1), 1);
        CHECKS.due("live", x.state(2, 2), 2);
        CHECKS.due("asked for", x.state(2, 3), 3);
        CHECKS.due("of the other guest", x.state(3, 2), NONE);
    }

    private static void wrongGuestsAndTicketsAreRefused() {
        BindingKernel x = new BindingKernel();
        x.bind(2, false);
        x.bind(2, true);
        x.bind(2, false);
        x.append(0, 0, 1);
        for (int guest : NO_GUESTS) {
            refuses(x, guest, 0);
            CHECKS.due("copy by " + guest, x.copy(guest, 0, 1), false);
        }
        for (int ticket : NO_TICKETS) {
            refuses(x, 2, ticket);
            CHECKS.due("copy from " + ticket, x.copy(2, ticket, 1), false);
            CHECKS.due("copy to " + ticket, x.copy(2, 0, ticket), false);
        }
        CHECKS.due("nothing was asked for or given back", x.state(2, 0) + x.state(2, 1), 4);
        CHECKS.due("free frames", x.free(false), 9);
        CHECKS.due("free blocks", x.free(true), 22);
    }

    private static void refuses(BindingKernel x, int guest, int ticket) {
        String which = " of ticket " + ticket + " of " + guest;
        CHECKS.due("put" + which, x.put(guest, ticket, 0, 1), false);
        CHECKS.due("get" + which, x.get(guest, ticket, 0), 0);
        CHECKS.due("release" + which, x.release(guest, ticket), false);
        CHECKS.due("ask" + which, x.ask(guest, ticket), false);
        CHECKS.due("state" + which, x.state(guest, ticket), NONE);
    }
}
