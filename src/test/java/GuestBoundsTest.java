/** Boundary cases that the document names of guests, in 'Terms' and in promises 9 to 15. */
public final class GuestBoundsTest {
    private static final int NONE = BindingKernel.NONE;
    private static final int MIN = Integer.MIN_VALUE;
    private static final int MAX = Integer.MAX_VALUE;
    private static final int[] NO_GUESTS = {-1, 0, 1, 4, MIN, MAX};
    private static final int[] NEVER_TICKETS = {-1, -2, -60, 60, 61, MIN, MIN + 1, 1 << 30, MAX};
    private static final int[] NO_WORDS = {-1, 4, -4, 5, MIN, MAX};
    private static final Checks CHECKS = new Checks("GuestBoundsTest");

    public static void main(String[] args) {
        ticketsCountFramesAndBlocksTogether();
        for (int guest = 2; guest < 4; guest++) {
            sixtyBindingsAndNoMore(guest);
            sixtyBindingsThatWereTaken(guest);
            sixtyBindingsThatAreMostlyLive(guest);
            claimsWithoutATicketDoNotCount(guest);
            noClaimAfterSixtyBindings(guest);
            theLastTicketsWork(guest);
            ticketsEndAtTheCount(guest);
            aBindingIsLiveUntilItEnds(guest);
            aBlockHasNoWordsToPut(guest);
            wordsOfAFrame(guest);
            copyNeedsTwoKinds(guest);
            copyNeedsLiveTickets(guest);
            releaseOnceAndNoMore(guest);
            askOnceAndNoMore(guest);
            stateOfAllFates(guest);
        }
        wrongGuestsAreRefused();
        ticketsOfTheOtherGuest();
        CHECKS.end();
    }

    private static int other(int guest) {
        return 5 - guest;
    }

    private static void ticketsCountFramesAndBlocksTogether() {
        CHECKS.about("TICKETS 0, 1, .. in the order in which they were bound (frames and blocks together)");
        BindingKernel x = new BindingKernel();
        for (int ticket = 0; ticket < 12; ticket++) {
            CHECKS.due("bind by 2", x.bind(2, ticket % 3 != 0), ticket);
            CHECKS.due("bind by 3", x.bind(3, ticket % 3 == 0), ticket);
        }
        for (int ticket = 0; ticket < 12; ticket++) {
            CHECKS.due("is a frame of 2", x.put(2, ticket, 0, 1), ticket % 3 == 0);
            CHECKS.due("is a frame of 3", x.put(3, ticket, 0, 1), ticket % 3 != 0);
        }
    }

    private static void sixtyBindingsAndNoMore(int guest) {
        CHECKS.about("at most 60 bindings in all, those that have ended included");
        BindingKernel x = new BindingKernel();
        for (int ticket = 0; ticket < 60; ticket++) {
            CHECKS.due("state before bind", x.state(guest, ticket), NONE);
            CHECKS.due("bind", x.bind(guest, ticket % 2 == 1), ticket);
            CHECKS.due("release", x.release(guest, ticket), true);
        }
        CHECKS.due("a 61st frame", x.bind(guest, false), NONE);
        CHECKS.due("a 61st block", x.bind(guest, true), NONE);
        CHECKS.due("there is no ticket 60", x.state(guest, 60), NONE);
        CHECKS.due("free frames", x.free(false), 12);
        CHECKS.due("free blocks", x.free(true), 24);
        CHECKS.due("the other guest's first", x.bind(other(guest), true), 0);
    }

    private static void sixtyBindingsThatWereTaken(int guest) {
        CHECKS.about("at most 60 bindings in all, those that have ended included");
        BindingKernel x = new BindingKernel();
        for (int ticket = 0; ticket < 60; ticket++) {
            CHECKS.due("bind", x.bind(guest, ticket % 2 == 0), ticket);
            x.ask(guest, ticket);
            if (ticket % 12 == 11) {
                CHECKS.due("taken", x.pass(5), 12);
            }
        }
        CHECKS.due("a 61st frame", x.bind(guest, false), NONE);
        CHECKS.due("a 61st block", x.bind(guest, true), NONE);
        CHECKS.due("losses", x.losses(guest), 60);
    }

    private static void sixtyBindingsThatAreMostlyLive(int guest) {
        CHECKS.about("at most 60 bindings in all, those that have ended included");
        BindingKernel x = new BindingKernel();
        Scenes.spendTickets(x, guest, true, 30);
        Scenes.bindMany(x, guest, false, 8);
        Scenes.bindMany(x, guest, true, 21);
        CHECKS.due("the 60th", x.bind(guest, false), 59);
        CHECKS.due("a 61st frame though some are free", x.bind(guest, false), NONE);
        CHECKS.due("a 61st block though some are free", x.bind(guest, true), NONE);
        CHECKS.due("free frames", x.free(false), 3);
        CHECKS.due("free blocks", x.free(true), 3);
    }

    private static void claimsWithoutATicketDoNotCount(int guest) {
        CHECKS.about("a guest has at most 60 bindings in all");
        BindingKernel x = new BindingKernel();
        Scenes.bindMany(x, other(guest), false, 12);
        for (int i = 0; i < 70; i++) {
            CHECKS.due("a claim that waits", x.bind(guest, false), BindingKernel.WAITS);
        }
        x.pass(5);
        CHECKS.due("first ticket", x.bind(guest, false), 0);
        Scenes.bindMany(x, other(guest), true, 18);
        Scenes.bindMany(x, guest, true, 6);
        for (int i = 0; i < 70; i++) {
            CHECKS.due("a refused claim", x.bind(guest, true), BindingKernel.REFUSED);
            CHECKS.due("no guest", x.bind(guest - 2, true), NONE);
        }
        x.release(guest, 0);
        CHECKS.due("next ticket", x.bind(guest, false), 7);
    }

    private static void noClaimAfterSixtyBindings(int guest) {
        CHECKS.about("NONE, without a claim, when guest .. has had 60 bindings");
        for (boolean block : Scenes.KINDS) {
            BindingKernel x = new BindingKernel();
            Scenes.spendTickets(x, guest, block, 60);
            Scenes.bindMany(x, other(guest), block, Scenes.sizeOf(block));
            CHECKS.due("bind when none is free", x.bind(guest, block), NONE);
            for (int ticket = 0; ticket < Scenes.sizeOf(block); ticket++) {
                CHECKS.due("none is asked for", x.state(other(guest), ticket), 2);
            }
            CHECKS.due("none is taken", x.pass(50), 0);
            x.release(other(guest), 0);
            CHECKS.due("bind when one is free", x.bind(guest, block), NONE);
            CHECKS.due("it stays free", x.free(block), 1);
        }
    }

    private static void theLastTicketsWork(int guest) {
        CHECKS.about("a guest has at most 60 bindings in all");
        BindingKernel x = new BindingKernel();
        Scenes.spendTickets(x, guest, false, 58);
        CHECKS.due("ticket 58", x.bind(guest, true), 58);
        CHECKS.due("ticket 59", x.bind(guest, false), 59);
        CHECKS.due("put", x.put(guest, 59, 3, 6), true);
        CHECKS.due("get", x.get(guest, 59, 3), 6);
        CHECKS.due("copy", x.copy(guest, 59, 58), true);
        x.put(guest, 59, 3, 7);
        CHECKS.due("copy back", x.copy(guest, 58, 59), true);
        CHECKS.due("get", x.get(guest, 59, 3), 6);
        CHECKS.due("state", x.state(guest, 59), 2);
        CHECKS.due("ask", x.ask(guest, 59), true);
        CHECKS.due("release", x.release(guest, 58), true);
        CHECKS.due("pass", x.pass(5), 1);
        CHECKS.due("state", x.state(guest, 59), 1);
        CHECKS.due("state", x.state(guest, 58), 0);
    }

    private static void ticketsEndAtTheCount(int guest) {
        CHECKS.about("the ticket is not that of a live binding");
        BindingKernel x = new BindingKernel();
        for (int count = 0; count < 4; count++) {
            refusesTicket(x, guest, count);
            for (int ticket : NEVER_TICKETS) {
                refusesTicket(x, guest, ticket);
            }
            x.bind(guest, count == 1);
            Scenes.bindMany(x, other(guest), count == 2, 2);
        }
        for (int ticket = 0; ticket < 4; ticket++) {
            CHECKS.due("state of ticket " + ticket, x.state(guest, ticket), 2);
            CHECKS.due("word of ticket " + ticket, x.get(guest, ticket, 0), 0);
        }
        CHECKS.due("free frames", x.free(false), 3);
        CHECKS.due("free blocks", x.free(true), 21);
    }

    private static void refusesTicket(BindingKernel x, int guest, int ticket) {
        CHECKS.due("state of ticket " + ticket, x.state(guest, ticket), NONE);
        refusesUse(x, guest, ticket);
    }

    private static void refusesUse(BindingKernel x, int guest, int ticket) {
        CHECKS.due("put to ticket " + ticket, x.put(guest, ticket, 0, 9), false);
        CHECKS.due("get of ticket " + ticket, x.get(guest, ticket, 0), 0);
        CHECKS.due("release of ticket " + ticket, x.release(guest, ticket), false);
        CHECKS.due("ask for ticket " + ticket, x.ask(guest, ticket), false);
        for (int live = 0; live < 2; live++) {
            CHECKS.due("copy from ticket " + ticket, x.copy(guest, ticket, live), false);
            CHECKS.due("copy to ticket " + ticket, x.copy(guest, live, ticket), false);
        }
        CHECKS.due("copy of ticket " + ticket + " to itself", x.copy(guest, ticket, ticket), false);
    }

    /** Tickets: 0 a frame, 1 a block, 2 a frame, 3 a block, with words that are not 0. */
    private static BindingKernel fourTickets(int guest) {
        BindingKernel x = new BindingKernel();
        for (int ticket = 0; ticket < 4; ticket++) {
            x.bind(guest, ticket % 2 == 1);
        }
        Scenes.putAll(x, guest, 0, 20);
        x.copy(guest, 0, 1);
        x.copy(guest, 0, 3);
        Scenes.putAll(x, guest, 2, 30);
        return x;
    }

    private static void wordsAre(BindingKernel x, int guest, int ticket, int first) {
        for (int i = 0; i < 4; i++) {
            CHECKS.due("word " + i + " of ticket " + ticket, x.get(guest, ticket, i), first + i);
        }
    }

    private static void aBindingIsLiveUntilItEnds(int guest) {
        CHECKS.about("A binding is LIVE until it ends.");
        BindingKernel x = fourTickets(guest);
        for (int ticket = 0; ticket < 4; ticket++) {
            x.ask(guest, ticket);
        }
        x.pass(4);
        CHECKS.due("put just before the deadline", x.put(guest, 2, 0, 5), true);
        CHECKS.due("get just before the deadline", x.get(guest, 2, 0), 5);
        CHECKS.due("copy just before the deadline", x.copy(guest, 1, 2), true);
        wordsAre(x, guest, 2, 20);
        CHECKS.due("release just before the deadline", x.release(guest, 3), true);
        CHECKS.due("the others are taken", x.pass(1), 3);
        for (int ticket = 0; ticket < 4; ticket++) {
            refusesUse(x, guest, ticket);
            CHECKS.due("state", x.state(guest, ticket), ticket == 3 ? 0 : 1);
        }
    }

    private static void aBlockHasNoWordsToPut(int guest) {
        CHECKS.about("the ticket is not that of a live binding of a frame");
        BindingKernel x = fourTickets(guest);
        for (int i = 0; i < 4; i++) {
            CHECKS.due("put to a block", x.put(guest, 1, i, 9), false);
            CHECKS.due("get of a block", x.get(guest, 1, i), 0);
        }
        wordsAre(x, guest, 0, 20);
        wordsAre(x, guest, 2, 30);
        x.copy(guest, 1, 2);
        wordsAre(x, guest, 2, 20);
    }

    private static void wordsOfAFrame(int guest) {
        CHECKS.about("i is not 0 .. 3");
        BindingKernel x = fourTickets(guest);
        x.bind(other(guest), false);
        for (int i : NO_WORDS) {
            for (int ticket = 0; ticket < 4; ticket++) {
                CHECKS.due("put of word " + i, x.put(guest, ticket, i, 9), false);
                CHECKS.due("get of word " + i, x.get(guest, ticket, i), 0);
            }
        }
        wordsAre(x, guest, 0, 20);
        wordsAre(x, guest, 2, 30);
        for (int i = 0; i < 4; i++) {
            CHECKS.due("word of the other guest", x.get(other(guest), 0, i), 0);
            int extreme = i % 2 == 0 ? MIN : MAX;
            CHECKS.due("put of word " + i, x.put(guest, 2, i, extreme), true);
            CHECKS.due("get of word " + i, x.get(guest, 2, i), extreme);
        }
    }

    private static void copyNeedsTwoKinds(int guest) {
        CHECKS.about("or both resources are of the same kind");
        BindingKernel x = fourTickets(guest);
        for (int from = 0; from < 4; from++) {
            for (int to = 0; to < 4; to++) {
                BindingKernel y = fourTickets(guest);
                boolean twoKinds = from % 2 != to % 2;
                CHECKS.due("copy from " + from + " to " + to, y.copy(guest, from, to), twoKinds);
                wordsAre(y, guest, 0, 20);
                wordsAre(y, guest, 2, twoKinds && to == 2 ? 20 : 30);
                y.copy(guest, 1, 0);
                wordsAre(y, guest, 0, from == 2 && to == 1 ? 30 : 20);
            }
        }
        CHECKS.due("to a frame", x.copy(guest, 3, 2), true);
        wordsAre(x, guest, 2, 20);
    }

    private static void copyNeedsLiveTickets(int guest) {
        CHECKS.about("a ticket is not that of a live binding");
        BindingKernel x = fourTickets(guest);
        x.release(guest, 0);
        x.ask(guest, 1);
        x.pass(5);
        CHECKS.due("from a frame given back", x.copy(guest, 0, 3), false);
        CHECKS.due("to a frame given back", x.copy(guest, 3, 0), false);
        CHECKS.due("from a block taken", x.copy(guest, 1, 2), false);
        CHECKS.due("to a block taken", x.copy(guest, 2, 1), false);
        CHECKS.due("both ended", x.copy(guest, 0, 1), false);
        for (int ticket : NEVER_TICKETS) {
            CHECKS.due("from no ticket to a frame", x.copy(guest, ticket, 2), false);
            CHECKS.due("from no ticket to a block", x.copy(guest, ticket, 3), false);
            CHECKS.due("from a frame to no ticket", x.copy(guest, 2, ticket), false);
            CHECKS.due("from a block to no ticket", x.copy(guest, 3, ticket), false);
        }
        wordsAre(x, guest, 2, 30);
        CHECKS.due("both live", x.copy(guest, 3, 2), true);
        wordsAre(x, guest, 2, 20);
    }

    private static void releaseOnceAndNoMore(int guest) {
        CHECKS.about("False when .. the ticket is not that of a live binding.");
        BindingKernel x = fourTickets(guest);
        CHECKS.due("release", x.release(guest, 2), true);
        CHECKS.due("again", x.release(guest, 2), false);
        CHECKS.due("the frame is bound to the other guest", x.bind(other(guest), false), 0);
        CHECKS.due("again, by the one that had it", x.release(guest, 2), false);
        CHECKS.due("held by the other guest", x.held(other(guest), false), 1);
        x.ask(guest, 3);
        CHECKS.due("release of one that is asked for", x.release(guest, 3), true);
        CHECKS.due("nothing is taken", x.pass(5), 0);
        CHECKS.due("state", x.state(guest, 3), 0);
        x.ask(guest, 1);
        x.pass(5);
        CHECKS.due("release of one that was taken", x.release(guest, 1), false);
        CHECKS.due("state", x.state(guest, 1), 1);
        CHECKS.due("losses", x.losses(guest), 1);
        CHECKS.due("free blocks", x.free(true), 24);
    }

    private static void askOnceAndNoMore(int guest) {
        CHECKS.about("or it is asked for already");
        BindingKernel x = fourTickets(guest);
        CHECKS.due("ask", x.ask(guest, 1), true);
        CHECKS.due("again at once", x.ask(guest, 1), false);
        x.pass(4);
        CHECKS.due("again later", x.ask(guest, 1), false);
        CHECKS.due("the first deadline stands", x.pass(1), 1);
        CHECKS.due("ask for one that was taken", x.ask(guest, 1), false);
        x.release(guest, 0);
        CHECKS.due("ask for one that was given back", x.ask(guest, 0), false);
        x.ask(guest, 2);
        x.release(guest, 2);
        CHECKS.due("ask for one that was given back in time", x.ask(guest, 2), false);
        CHECKS.due("nothing is taken", x.pass(50), 0);
        Scenes.bindMany(x, other(guest), false, 12);
        CHECKS.due("a claim that waits", x.bind(guest, false), BindingKernel.WAITS);
        CHECKS.due("ask for the one that is asked for by it", x.ask(other(guest), 11), false);
        CHECKS.due("ask for one that is not", x.ask(other(guest), 10), true);
        CHECKS.due("ask alone takes nothing", x.held(other(guest), false), 12);
    }

    private static void stateOfAllFates(int guest) {
        CHECKS.about("0 it was given back, 1 the kernel took it, 2 it is live and not asked for, "
                + "3 it is live and asked for");
        for (boolean block : Scenes.KINDS) {
            BindingKernel x = new BindingKernel();
            Scenes.bindMany(x, guest, block, 5);
            x.release(guest, 0);
            x.ask(guest, 1);
            x.ask(guest, 4);
            x.release(guest, 4);
            x.pass(5);
            x.ask(guest, 3);
            int[] fates = {0, 1, 2, 3, 0, NONE};
            for (int ticket = 0; ticket < fates.length; ticket++) {
                CHECKS.due("state of " + ticket, x.state(guest, ticket), fates[ticket]);
                CHECKS.due("of the other guest", x.state(other(guest), ticket), NONE);
            }
            x.bind(guest, block);
            CHECKS.due("state of an ended ticket when its resource is bound again", x.state(guest, 0), 0);
        }
    }

    private static void wrongGuestsAreRefused() {
        CHECKS.about("when guest is not 2 or 3");
        BindingKernel x = Scenes.withBindings(1, 1, 1, 1);
        Scenes.fill(x, 0, 0, 4);
        for (int guest : NO_GUESTS) {
            CHECKS.due("bind of a frame", x.bind(guest, false), NONE);
            CHECKS.due("bind of a block", x.bind(guest, true), NONE);
            for (int ticket = 0; ticket < 2; ticket++) {
                refusesTicket(x, guest, ticket);
            }
        }
        CHECKS.due("free frames", x.free(false), 9);
        CHECKS.due("free blocks", x.free(true), 21);
        for (int guest = 2; guest < 4; guest++) {
            CHECKS.due("state of a frame", x.state(guest, 0), 2);
            CHECKS.due("state of a block", x.state(guest, 1), 2);
            CHECKS.due("no ticket more", x.state(guest, 2), NONE);
            CHECKS.due("no word was put", x.get(guest, 0, 0), 0);
        }
        BindingKernel full = Scenes.withKind(false, 12, 0);
        for (int guest : NO_GUESTS) {
            CHECKS.due("bind when none is free", full.bind(guest, false), NONE);
        }
        CHECKS.due("nothing was asked for", full.pass(50), 0);
    }

    private static void ticketsOfTheOtherGuest() {
        CHECKS.about("The binding of a guest's ticket");
        BindingKernel x = fourTickets(2);
        x.bind(3, true);
        CHECKS.due("put", x.put(3, 0, 0, 9), false);
        CHECKS.due("get", x.get(3, 0, 0), 0);
        CHECKS.due("release", x.release(3, 1), false);
        CHECKS.due("ask", x.ask(3, 1), false);
        CHECKS.due("copy", x.copy(3, 0, 2), false);
        CHECKS.due("state", x.state(3, 1), NONE);
        CHECKS.due("ask for its own", x.ask(3, 0), true);
        CHECKS.due("state of the other guest's", x.state(2, 0), 2);
        CHECKS.due("release of the other guest's", x.release(2, 0), true);
        CHECKS.due("state of its own", x.state(3, 0), 3);
        wordsAre(x, 2, 2, 30);
    }
}
