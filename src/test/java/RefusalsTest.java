import java.util.ArrayList;
import java.util.Arrays;
import java.util.List;
import java.util.function.Consumer;
import java.util.function.Supplier;

/**
 * "A call that is refused changes nothing, except as said of claims that wait." Two objects are
 * made alike; one is given the refused call, and then both must answer alike whatever is asked of
 * them. Calls that only tell something are held to the same.
 */
public final class RefusalsTest {
    private static final int NONE = BindingKernel.NONE;
    private static final int REFUSED = BindingKernel.REFUSED;
    private static final int WAITS = BindingKernel.WAITS;
    private static final int MIN = Integer.MIN_VALUE;
    private static final int MAX = Integer.MAX_VALUE;
    private static final int[] NO_APPS = {-1, 2, 3, 4, MIN, MAX};
    private static final int[] NO_NAMES = {-1, 6, MIN, MAX};
    private static final int[] NO_GUESTS = {-1, 0, 1, 4, MIN, MAX};
    private static final int[] NO_WORDS = {-1, 4, MIN, MAX};
    private static final int[] NO_PASSES = {0, -1, 51, MIN, MAX};
    private static final int[] NO_ENVIRONMENTS = {-1, 4, MIN, MAX};
    private static final Checks CHECKS = new Checks("RefusalsTest");

    private interface Call {
        int on(BindingKernel x);
    }

    private record Refusal(String name, int due, Call call) {
    }

    /** What became of the tickets of one guest; every other number is no ticket. */
    private record Tickets(int guest, int count, int[] frames, int[] blocks, int[] asked, int[] ended) {
    }

    /** A look at an object, which may change it, as a row of answers. */
    private interface Probe {
        void look(BindingKernel x, List<Integer> answers);
    }

    private static final Probe[] PROBES = {
        RefusalsTest::lookAtCounts,
        RefusalsTest::lookAtTickets,
        RefusalsTest::lookAtWordsOfGuests,
        RefusalsTest::lookAtDeadlines,
        (x, answers) -> lookAtFiles(x, answers, 0),
        (x, answers) -> lookAtFiles(x, answers, 1),
        (x, answers) -> lookAtFiles(x, answers, 2),
        RefusalsTest::lookAtFilesBackwards,
        RefusalsTest::lookAtChanges,
        RefusalsTest::lookAtClaimsOfGuests,
        RefusalsTest::lookAtClaimsOfApplications,
    };

    public static void main(String[] args) {
        CHECKS.about("A call that is refused changes nothing, except as said of claims that wait.");
        newObject();
        busyObject();
        fullObject();
        objectWithAFullFile();
        objectWithAWaitingClaim();
        objectWithAllTicketsSpent();
        objectWithAllTicketsSpentAndNoneFree();
        aFirstWaitingClaimOnlyAsks();
        CHECKS.end();
    }

    private static void newObject() {
        Tickets two = new Tickets(2, 0, row(), row(), row(), row());
        Tickets three = new Tickets(3, 0, row(), row(), row(), row());
        List<Refusal> refusals = common(two, three);
        addWords(refusals, 0, 0);
        addWords(refusals, 1, 0);
        for (int app = 0; app < 2; app++) {
            int which = app;
            add(refusals, "squeeze without a frame", 0, x -> asInt(x.squeeze(which)));
            add(refusals, "sync without a frame", 0, x -> x.sync(which));
            add(refusals, "erase of an empty file", 0, x -> x.erase(which, 3));
        }
        compareAll("a new object", BindingKernel::new, refusals);
    }

    private static void busyObject() {
        Tickets two = new Tickets(2, 8, row(0, 2, 7), row(1, 3), row(2, 3), row(4, 5, 6));
        Tickets three = new Tickets(3, 3, row(1, 2), row(0), row(2), row());
        List<Refusal> refusals = common(two, three);
        addWords(refusals, 0, 5, 0, 4, 0, 0, 1);
        addWords(refusals, 1, 2, 0, 0, 9, 0, 0);
        add(refusals, "erase of an empty file", 0, x -> x.erase(0, 1));
        compareAll("a busy object", RefusalsTest::makeBusy, refusals);
    }

    /** Changed and unchanged frames, an order of use of their own, and tickets of every fate. */
    private static BindingKernel makeBusy() {
        BindingKernel x = new BindingKernel();
        for (int ticket = 0; ticket < 7; ticket++) {
            x.bind(2, ticket % 2 == 1);
        }
        x.ask(2, 5);
        x.ask(2, 6);
        x.pass(5);
        x.release(2, 4);
        x.bind(2, false);
        x.bind(3, true);
        x.bind(3, false);
        x.bind(3, false);
        giveWords(x);
        Scenes.fill(x, 0, 0, 5);
        Scenes.fill(x, 0, 2, 4);
        Scenes.fill(x, 0, 5, 1);
        x.sync(0);
        x.write(0, 2, 1, 77);
        x.read(0, 0, 4);
        Scenes.fill(x, 1, 0, 2);
        Scenes.fill(x, 1, 3, 9);
        x.write(1, 3, 0, 66);
        x.squeeze(1);
        x.ask(2, 2);
        x.pass(2);
        x.ask(2, 3);
        x.ask(3, 2);
        x.pass(1);
        return x;
    }

    private static void giveWords(BindingKernel x) {
        Scenes.putAll(x, 2, 0, 200);
        x.copy(2, 0, 1);
        Scenes.putAll(x, 2, 2, 210);
        x.copy(2, 2, 3);
        Scenes.putAll(x, 2, 7, 220);
        Scenes.putAll(x, 3, 1, 300);
        x.copy(3, 1, 0);
        Scenes.putAll(x, 3, 2, 310);
    }

    private static void fullObject() {
        Tickets two = new Tickets(2, 16, span(0, 5), span(5, 16), row(), row());
        Tickets three = new Tickets(3, 9, span(0, 3), span(3, 9), row(), row());
        List<Refusal> refusals = common(two, three);
        addWords(refusals, 0, 8, 4, 4, 4, 4, 0);
        addWords(refusals, 1, 4, 0, 0, 0, 0, 0);
        for (int name = 0; name < 6; name++) {
            int file = name;
            add(refusals, "append of a seventh part", 0, x -> asInt(x.append(0, file, 5)));
        }
        for (boolean block : Scenes.KINDS) {
            add(refusals, "claim with a share", REFUSED, x -> x.bind(3, block));
            add(refusals, "claim with more than a share", REFUSED, x -> x.bind(2, block));
        }
        compareAll("a full object", RefusalsTest::makeFull, refusals);
    }

    /** All is bound; application 0 has its share, application 1 little. */
    private static BindingKernel makeFull() {
        BindingKernel x = new BindingKernel();
        Scenes.fill(x, 0, 0, 8);
        for (int name = 1; name < 5; name++) {
            Scenes.fill(x, 0, name, 4);
        }
        Scenes.fill(x, 1, 0, 4);
        Scenes.bindMany(x, 2, false, 5);
        Scenes.bindMany(x, 2, true, 11);
        Scenes.bindMany(x, 3, false, 3);
        Scenes.bindMany(x, 3, true, 6);
        Scenes.putAll(x, 2, 4, 400);
        x.copy(2, 4, 15);
        return x;
    }

    private static void objectWithAFullFile() {
        List<Refusal> refusals = new ArrayList<>();
        addWords(refusals, 1, 0, 24);
        for (int name = 0; name < 6; name++) {
            int file = name;
            add(refusals, "append of a seventh part", 0, x -> asInt(x.append(1, file, 5)));
        }
        compareAll("an object with a full file", RefusalsTest::makeFullFile, refusals);
    }

    /** Parts 5, 0 and 3 lie in frames, used in that order, and part 0 was changed. */
    private static BindingKernel makeFullFile() {
        BindingKernel x = new BindingKernel();
        Scenes.fill(x, 1, 1, 24);
        x.sync(1);
        x.write(1, 1, 2, 77);
        x.read(1, 1, 12);
        Scenes.bindMany(x, 2, true, 18);
        return x;
    }

    private static void objectWithAWaitingClaim() {
        Tickets two = new Tickets(2, 29, span(0, 10), span(10, 29), row(9, 28), row());
        Tickets three = new Tickets(3, 7, row(0, 1), span(2, 7), row(), row());
        List<Refusal> refusals = common(two, three);
        for (boolean block : Scenes.KINDS) {
            add(refusals, "a second claim that waits", WAITS, x -> x.bind(3, block));
            add(refusals, "a claim with more than a share", REFUSED, x -> x.bind(2, block));
        }
        compareAll("an object with waiting claims", RefusalsTest::makeWaiting, refusals);
    }

    private static BindingKernel makeWaiting() {
        BindingKernel x = Scenes.withBindings(10, 19, 2, 5);
        x.bind(3, false);
        x.pass(1);
        x.bind(3, true);
        x.pass(1);
        return x;
    }

    private static void objectWithAllTicketsSpent() {
        Tickets two = new Tickets(2, 60, row(58), row(59), row(), span(0, 58));
        Tickets three = new Tickets(3, 2, row(0), row(1), row(), row());
        List<Refusal> refusals = common(two, three);
        for (boolean block : Scenes.KINDS) {
            add(refusals, "a 61st binding", NONE, x -> x.bind(2, block));
        }
        compareAll("an object with all tickets spent", RefusalsTest::makeSpent, refusals);
    }

    private static BindingKernel makeSpent() {
        BindingKernel x = new BindingKernel();
        Scenes.spendTickets(x, 2, true, 58);
        x.bind(2, false);
        x.bind(2, true);
        x.bind(3, false);
        x.bind(3, true);
        Scenes.putAll(x, 2, 58, 500);
        x.copy(2, 58, 59);
        return x;
    }

    private static void objectWithAllTicketsSpentAndNoneFree() {
        List<Refusal> refusals = new ArrayList<>();
        for (boolean block : Scenes.KINDS) {
            add(refusals, "a 61st binding when none is free", NONE, x -> x.bind(3, block));
        }
        compareAll("an object with all tickets spent and none free", () -> {
            BindingKernel x = new BindingKernel();
            Scenes.spendTickets(x, 3, false, 60);
            Scenes.bindMany(x, 2, false, 12);
            Scenes.bindMany(x, 2, true, 24);
            return x;
        }, refusals);
    }

    /** What a claim that waits changes is no more than what ask for the same binding changes. */
    private static void aFirstWaitingClaimOnlyAsks() {
        Supplier<BindingKernel> twoIsRich = () -> Scenes.withBindings(10, 19, 2, 5);
        Supplier<BindingKernel> threeIsRich = () -> Scenes.withBindings(2, 5, 10, 19);
        sameAfter("a frame", twoIsRich, x -> x.bind(3, false), x -> x.ask(2, 9));
        sameAfter("a block", twoIsRich, x -> x.bind(3, true), x -> x.ask(2, 28));
        sameAfter("a frame", threeIsRich, x -> x.bind(2, false), x -> x.ask(3, 9));
        sameAfter("a block", threeIsRich, x -> x.bind(2, true), x -> x.ask(3, 28));
    }

    private static void sameAfter(String what, Supplier<BindingKernel> scene,
            Consumer<BindingKernel> claim, Consumer<BindingKernel> ask) {
        for (Probe probe : PROBES) {
            BindingKernel claimed = scene.get();
            claim.accept(claimed);
            BindingKernel asked = scene.get();
            ask.accept(asked);
            CHECKS.due("a claim of " + what + " that waits is like an ask",
                    answersOf(probe, claimed).equals(answersOf(probe, asked)), true);
        }
    }

    private static void compareAll(String scene, Supplier<BindingKernel> make, List<Refusal> refusals) {
        List<List<Integer>> untouched = new ArrayList<>();
        for (Probe probe : PROBES) {
            untouched.add(answersOf(probe, make.get()));
        }
        for (Refusal refusal : refusals) {
            String what = scene + ": " + refusal.name;
            for (int i = 0; i < PROBES.length; i++) {
                BindingKernel x = make.get();
                CHECKS.due(what, refusal.call.on(x), refusal.due);
                CHECKS.due("what probe " + i + " sees is the same after " + what,
                        answersOf(PROBES[i], x).equals(untouched.get(i)), true);
            }
        }
    }

    private static List<Integer> answersOf(Probe probe, BindingKernel x) {
        List<Integer> answers = new ArrayList<>();
        probe.look(x, answers);
        return answers;
    }

    private static List<Refusal> common(Tickets two, Tickets three) {
        List<Refusal> refusals = new ArrayList<>();
        addWrongFiles(refusals);
        addWrongGuests(refusals);
        addWrongNumbers(refusals);
        addTellingCalls(refusals);
        addTickets(refusals, two);
        addTickets(refusals, three);
        return refusals;
    }

    private static void add(List<Refusal> refusals, String name, int due, Call call) {
        refusals.add(new Refusal(name, due, call));
    }

    private static void addWrongFiles(List<Refusal> refusals) {
        for (int app : NO_APPS) {
            addWrongFile(refusals, app, 0);
            add(refusals, "sync of " + app, NONE, x -> x.sync(app));
            add(refusals, "squeeze of " + app, 0, x -> asInt(x.squeeze(app)));
        }
        for (int name : NO_NAMES) {
            addWrongFile(refusals, 0, name);
            addWrongFile(refusals, 1, name);
        }
    }

    private static void addWrongFile(List<Refusal> refusals, int app, int name) {
        String file = " of file " + name + " of " + app;
        add(refusals, "append" + file, 0, x -> asInt(x.append(app, name, 1)));
        add(refusals, "write" + file, 0, x -> asInt(x.write(app, name, 0, 1)));
        add(refusals, "read" + file, 0, x -> x.read(app, name, 0));
        add(refusals, "length" + file, NONE, x -> x.length(app, name));
        add(refusals, "erase" + file, NONE, x -> x.erase(app, name));
    }

    /** No word lies at or behind the length, nor before 0; files that aren't told have length 0. */
    private static void addWords(List<Refusal> refusals, int app, int... lengths) {
        for (int name = 0; name < 6; name++) {
            int file = name;
            int length = name < lengths.length ? lengths[name] : 0;
            int[] noWords = {length, length + 1, length + 4, 24, -1, MIN, MAX};
            add(refusals, "length of file " + name, length, x -> x.length(app, file));
            for (int i : noWords) {
                String word = " of word " + i + " of file " + name + " of " + app;
                add(refusals, "read" + word, 0, x -> x.read(app, file, i));
                add(refusals, "write" + word, 0, x -> asInt(x.write(app, file, i, 5)));
            }
        }
    }

    private static void addWrongGuests(List<Refusal> refusals) {
        for (int guest : NO_GUESTS) {
            add(refusals, "bind of a frame by " + guest, NONE, x -> x.bind(guest, false));
            add(refusals, "bind of a block by " + guest, NONE, x -> x.bind(guest, true));
            addNoTicket(refusals, guest, 0);
            addUse(refusals, guest, 0, 1);
            addUse(refusals, guest, 1, 0);
        }
    }

    private static void addNoTicket(List<Refusal> refusals, int guest, int ticket) {
        add(refusals, "state of no ticket " + ticket, NONE, x -> x.state(guest, ticket));
    }

    /** Calls with a ticket that is not live; the other one may be. */
    private static void addUse(List<Refusal> refusals, int guest, int ticket, int other) {
        String which = " ticket " + ticket + " of " + guest;
        add(refusals, "put to" + which, 0, x -> asInt(x.put(guest, ticket, 0, 9)));
        add(refusals, "get of" + which, 0, x -> x.get(guest, ticket, 0));
        add(refusals, "copy from" + which, 0, x -> asInt(x.copy(guest, ticket, other)));
        add(refusals, "copy to" + which, 0, x -> asInt(x.copy(guest, other, ticket)));
        add(refusals, "release of" + which, 0, x -> asInt(x.release(guest, ticket)));
        add(refusals, "ask for" + which, 0, x -> asInt(x.ask(guest, ticket)));
    }

    private static void addWrongNumbers(List<Refusal> refusals) {
        for (int n : NO_PASSES) {
            add(refusals, "pass(" + n + ")", NONE, x -> x.pass(n));
        }
        for (int environment : NO_ENVIRONMENTS) {
            add(refusals, "held by " + environment, NONE, x -> x.held(environment, false));
            add(refusals, "held by " + environment, NONE, x -> x.held(environment, true));
            add(refusals, "losses of " + environment, NONE, x -> x.losses(environment));
        }
    }

    /** Their answers are other tests' business, so that each is set to 0 here. */
    private static void addTellingCalls(List<Refusal> refusals) {
        add(refusals, "time", 0, x -> 0 * x.time());
        for (boolean flag : Scenes.KINDS) {
            add(refusals, "free", 0, x -> 0 * x.free(flag));
            add(refusals, "transfers", 0, x -> 0 * x.transfers(flag));
            add(refusals, "held", 0, x -> 0 * (x.held(0, flag) + x.held(1, flag) + x.held(2, flag)));
        }
        for (int app = 0; app < 2; app++) {
            for (int name = 0; name < 6; name++) {
                int which = app;
                int file = name;
                add(refusals, "length", 0, x -> 0 * x.length(which, file));
            }
        }
        add(refusals, "losses", 0, x -> 0 * (x.losses(0) + x.losses(1) + x.losses(2) + x.losses(3)));
    }

    private static void addTickets(List<Refusal> refusals, Tickets tickets) {
        int guest = tickets.guest;
        int[] live = joined(tickets.frames, tickets.blocks);
        for (int ticket : row(-1, tickets.count, tickets.count + 1, 60, MIN, MAX)) {
            addNoTicket(refusals, guest, ticket);
            addUse(refusals, guest, ticket, ticket);
            addUseWithEach(refusals, guest, ticket, live);
        }
        for (int ticket : tickets.ended) {
            addUseWithEach(refusals, guest, ticket, joined(live, row(ticket)));
        }
        for (int ticket : tickets.asked) {
            add(refusals, "ask again for " + ticket, 0, x -> asInt(x.ask(guest, ticket)));
            add(refusals, "state of an asked one", 3, x -> x.state(guest, ticket));
        }
        addKinds(refusals, tickets);
    }

    /** With two live tickets of each kind at most, which is enough to see a copy that was made. */
    private static void addUseWithEach(List<Refusal> refusals, int guest, int ticket, int[] others) {
        int step = Math.max(1, others.length / 4);
        for (int i = 0; i < others.length; i += step) {
            addUse(refusals, guest, ticket, others[i]);
        }
    }

    private static void addKinds(List<Refusal> refusals, Tickets tickets) {
        int guest = tickets.guest;
        for (int frame : tickets.frames) {
            for (int i : NO_WORDS) {
                add(refusals, "put of word " + i, 0, x -> asInt(x.put(guest, frame, i, 9)));
                add(refusals, "get of word " + i, 0, x -> x.get(guest, frame, i));
            }
            for (int to : tickets.frames) {
                add(refusals, "copy of a frame to a frame", 0, x -> asInt(x.copy(guest, frame, to)));
            }
            add(refusals, "get", 0, x -> 0 * x.get(guest, frame, 3));
        }
        for (int block : tickets.blocks) {
            add(refusals, "put to a block", 0, x -> asInt(x.put(guest, block, 1, 9)));
            add(refusals, "get of a block", 0, x -> x.get(guest, block, 1));
            add(refusals, "copy of a block to a block", 0,
                    x -> asInt(x.copy(guest, block, tickets.blocks[0])));
        }
    }

    private static void lookAtCounts(BindingKernel x, List<Integer> answers) {
        answers.add(x.time());
        for (boolean flag : Scenes.KINDS) {
            answers.add(x.free(flag));
            answers.add(x.transfers(flag));
            for (int environment = 0; environment < 4; environment++) {
                answers.add(x.held(environment, flag));
                answers.add(x.losses(environment));
            }
        }
        for (int name = 0; name < 6; name++) {
            answers.add(x.length(0, name));
            answers.add(x.length(1, name));
        }
    }

    private static void lookAtTickets(BindingKernel x, List<Integer> answers) {
        for (int guest = 2; guest < 4; guest++) {
            for (int ticket = 0; ticket < 60; ticket++) {
                answers.add(x.state(guest, ticket));
            }
        }
    }

    /** The words of the frames, and then those of the blocks by way of a frame. */
    private static void lookAtWordsOfGuests(BindingKernel x, List<Integer> answers) {
        for (int guest = 2; guest < 4; guest++) {
            int frame = NONE;
            for (int ticket = 0; ticket < 60; ticket++) {
                if (x.get(guest, ticket, 0) != 0) {
                    frame = ticket;
                    addFrame(x, guest, ticket, answers);
                }
            }
            for (int ticket = 0; ticket < 60 && frame != NONE; ticket++) {
                if (x.copy(guest, ticket, frame) && x.get(guest, frame, 0) != 0) {
                    addFrame(x, guest, frame, answers);
                }
            }
        }
    }

    private static void addFrame(BindingKernel x, int guest, int ticket, List<Integer> answers) {
        answers.add(ticket);
        for (int i = 0; i < 4; i++) {
            answers.add(x.get(guest, ticket, i));
        }
    }

    private static void lookAtDeadlines(BindingKernel x, List<Integer> answers) {
        for (int i = 0; i < 7; i++) {
            answers.add(x.pass(1));
            answers.add(x.time());
            answers.add(x.losses(2));
            answers.add(x.losses(3));
            answers.add(x.free(false));
        }
    }

    /** The first words of the parts tell what lies in which frame, after some frames are gone. */
    private static void lookAtFiles(BindingKernel x, List<Integer> answers, int squeezes) {
        for (int app = 0; app < 2; app++) {
            for (int i = 0; i < squeezes; i++) {
                answers.add(asInt(x.squeeze(app)));
                answers.add(x.transfers(true));
            }
            for (int name = 0; name < 6; name++) {
                for (int i = 0; i < 24; i += 4) {
                    answers.add(x.read(app, name, i));
                    answers.add(x.transfers(false));
                    answers.add(x.transfers(true));
                }
            }
        }
    }

    private static void lookAtFilesBackwards(BindingKernel x, List<Integer> answers) {
        for (int app = 1; app >= 0; app--) {
            for (int name = 5; name >= 0; name--) {
                for (int i = x.length(app, name) - 1; i >= 0; i--) {
                    answers.add(x.read(app, name, i));
                }
                answers.add(x.transfers(false));
                answers.add(x.transfers(true));
            }
        }
    }

    private static void lookAtChanges(BindingKernel x, List<Integer> answers) {
        for (int app = 0; app < 2; app++) {
            answers.add(asInt(x.squeeze(app)));
            answers.add(x.transfers(true));
            answers.add(x.sync(app));
            answers.add(x.sync(app));
            for (int name = 0; name < 6; name++) {
                answers.add(x.erase(app, name));
                answers.add(x.free(false));
                answers.add(x.free(true));
            }
        }
    }

    private static void lookAtClaimsOfGuests(BindingKernel x, List<Integer> answers) {
        for (int i = 0; i < 4; i++) {
            answers.add(x.bind(2, i % 2 == 0));
            answers.add(x.bind(3, i % 2 == 0));
            answers.add(x.pass(3));
            answers.add(x.time());
        }
        lookAtTickets(x, answers);
    }

    private static void lookAtClaimsOfApplications(BindingKernel x, List<Integer> answers) {
        for (int i = 0; i < 12; i++) {
            answers.add(asInt(x.append(i % 2, i / 2, 8)));
            answers.add(x.time());
            answers.add(x.held(i % 2, true));
        }
        lookAtTickets(x, answers);
        answers.add(x.losses(2));
    }

    private static int asInt(boolean answer) {
        return answer ? 1 : 0;
    }

    private static int[] row(int... values) {
        return values;
    }

    private static int[] span(int from, int to) {
        int[] values = new int[to - from];
        Arrays.setAll(values, i -> from + i);
        return values;
    }

    private static int[] joined(int[] first, int[] second) {
        int[] both = Arrays.copyOf(first, first.length + second.length);
        System.arraycopy(second, 0, both, first.length, second.length);
        return both;
    }
}
