import java.util.ArrayList;
import java.util.List;

/**
 * The document told a second time, with objects for bindings instead of numbered resources, so that
 * a slip in the class is not likely to be made here too.
 */
final class PlainModel {
    /** How often an application had to wait, so that a test can see that its runs got there. */
    int waitsOfApplications;

    private int time;
    private int loads;
    private int stores;
    private final int[] losses = new int[4];
    private final List<Binding> live = new ArrayList<>();
    private final List<List<Binding>> tickets = new ArrayList<>();
    private final List<List<Binding>> files = new ArrayList<>();
    private final int[] lengths = new int[12];
    /** For each application what lies in its frames, that used longest ago first. */
    private final List<List<Opened>> opened = new ArrayList<>();

    private static final class Binding {
        final int holder;
        final boolean block;
        int[] words = new int[4];
        int state = 2;
        int deadline;

        Binding(int holder, boolean block) {
            this.holder = holder;
            this.block = block;
        }
    }

    private record Opened(Binding frame, Binding part, boolean[] changed) {
    }

    PlainModel() {
        for (int i = 0; i < 4; i++) {
            tickets.add(new ArrayList<>());
        }
        for (int i = 0; i < 12; i++) {
            files.add(new ArrayList<>());
        }
        opened.add(new ArrayList<>());
        opened.add(new ArrayList<>());
    }

    boolean append(int app, int name, int word) {
        if (noFile(app, name)) {
            return false;
        }
        int file = app * 6 + name;
        if (lengths[file] % 4 == 0) {
            if (held(app, true) == 6) {
                return false;
            }
            files.get(file).add(claimWaiting(app, true));
        }
        lengths[file]++;
        return write(app, name, lengths[file] - 1, word);
    }

    boolean write(int app, int name, int i, int word) {
        if (noWord(app, name, i)) {
            return false;
        }
        Opened part = open(app, name, i);
        part.frame.words[i % 4] = word;
        part.changed[0] = true;
        return true;
    }

    int read(int app, int name, int i) {
        return noWord(app, name, i) ? 0 : open(app, name, i).frame.words[i % 4];
    }

    int length(int app, int name) {
        return noFile(app, name) ? -1 : lengths[app * 6 + name];
    }

    int erase(int app, int name) {
        if (noFile(app, name)) {
            return -1;
        }
        List<Binding> parts = files.get(app * 6 + name);
        for (Opened each : new ArrayList<>(opened.get(app))) {
            if (parts.contains(each.part)) {
                opened.get(app).remove(each);
                live.remove(each.frame);
            }
        }
        int count = parts.size();
        live.removeAll(parts);
        parts.clear();
        lengths[app * 6 + name] = 0;
        return count;
    }

    int sync(int app) {
        if (app != 0 && app != 1) {
            return -1;
        }
        int count = 0;
        for (Opened each : opened.get(app)) {
            count += store(each);
        }
        return count;
    }

    boolean squeeze(int app) {
        if (app != 0 && app != 1 || opened.get(app).isEmpty()) {
            return false;
        }
        Opened oldest = opened.get(app).remove(0);
        store(oldest);
        live.remove(oldest.frame);
        return true;
    }

    int bind(int guest, boolean block) {
        if (guest != 2 && guest != 3 || tickets.get(guest).size() == 60) {
            return -1;
        }
        if (free(block) == 0) {
            if (held(guest, block) >= (block ? 6 : 3)) {
                return -2;
            }
            askForOneOf(block);
            return -3;
        }
        tickets.get(guest).add(bindNew(guest, block));
        return tickets.get(guest).size() - 1;
    }

    boolean put(int guest, int ticket, int i, int word) {
        Binding binding = liveBinding(guest, ticket);
        if (binding == null || binding.block || i < 0 || i > 3) {
            return false;
        }
        binding.words[i] = word;
        return true;
    }

    int get(int guest, int ticket, int i) {
        Binding binding = liveBinding(guest, ticket);
        return binding == null || binding.block || i < 0 || i > 3 ? 0 : binding.words[i];
    }

    boolean copy(int guest, int from, int to) {
        Binding source = liveBinding(guest, from);
        Binding target = liveBinding(guest, to);
        if (source == null || target == null || source.block == target.block) {
            return false;
        }
        target.words = source.words.clone();
        return true;
    }

    boolean release(int guest, int ticket) {
        Binding binding = liveBinding(guest, ticket);
        if (binding == null) {
            return false;
        }
        binding.state = 0;
        return live.remove(binding);
    }

    boolean ask(int guest, int ticket) {
        Binding binding = liveBinding(guest, ticket);
        if (binding == null || binding.state == 3) {
            return false;
        }
        askFor(binding);
        return true;
    }

    int state(int guest, int ticket) {
        boolean none = guest != 2 && guest != 3 || ticket < 0 || ticket >= tickets.get(guest).size();
        return none ? -1 : tickets.get(guest).get(ticket).state;
    }

    int pass(int n) {
        return n < 1 || n > 50 ? -1 : moveTime(time + n);
    }

    int time() {
        return time;
    }

    int free(boolean block) {
        int bound = 0;
        for (int environment = 0; environment < 4; environment++) {
            bound += held(environment, block);
        }
        return (block ? 24 : 12) - bound;
    }

    int held(int environment, boolean block) {
        if (environment < 0 || environment > 3) {
            return -1;
        }
        return (int) live.stream()
                .filter(each -> each.holder == environment && each.block == block).count();
    }

    int losses(int environment) {
        return environment < 0 || environment > 3 ? -1 : losses[environment];
    }

    int transfers(boolean stored) {
        return stored ? stores : loads;
    }

    private static boolean noFile(int app, int name) {
        return app != 0 && app != 1 || name < 0 || name > 5;
    }

    private boolean noWord(int app, int name, int i) {
        return noFile(app, name) || i < 0 || i >= lengths[app * 6 + name];
    }

    private Binding liveBinding(int guest, int ticket) {
        return state(guest, ticket) >= 2 ? tickets.get(guest).get(ticket) : null;
    }

    private Binding bindNew(int holder, boolean block) {
        Binding binding = new Binding(holder, block);
        live.add(binding);
        return binding;
    }

    private Binding claimWaiting(int app, boolean block) {
        if (free(block) == 0) {
            waitsOfApplications++;
            askForOneOf(block);
            int earliest = Integer.MAX_VALUE;
            for (Binding each : live) {
                if (each.block == block && each.state == 3 && each.deadline < earliest) {
                    earliest = each.deadline;
                }
            }
            moveTime(earliest);
        }
        return bindNew(app, block);
    }

    private void askForOneOf(boolean block) {
        int asked = held(3, block) > held(2, block) ? 3 : 2;
        Binding last = null;
        for (Binding each : live) {
            if (each.block == block && each.state == 3) {
                return;
            }
            if (each.block == block && each.holder == asked) {
                last = each;
            }
        }
        askFor(last);
    }

    private void askFor(Binding binding) {
        binding.state = 3;
        binding.deadline = time + 5;
    }

    private int moveTime(int to) {
        time = to;
        int count = 0;
        for (Binding each : new ArrayList<>(live)) {
            if (each.state == 3 && each.deadline <= time) {
                each.state = 1;
                losses[each.holder]++;
                live.remove(each);
                count++;
            }
        }
        return count;
    }

    private Opened open(int app, int name, int i) {
        Binding part = files.get(app * 6 + name).get(i / 4);
        List<Opened> mine = opened.get(app);
        Opened found = null;
        for (Opened each : mine) {
            if (each.part == part) {
                found = each;
            }
        }
        if (found == null) {
            found = load(frameFor(app), part);
        } else {
            mine.remove(found);
        }
        mine.add(found);
        return found;
    }

    private Binding frameFor(int app) {
        if (opened.get(app).size() < 3) {
            return claimWaiting(app, false);
        }
        Opened oldest = opened.get(app).remove(0);
        store(oldest);
        return oldest.frame;
    }

    private Opened load(Binding frame, Binding part) {
        loads++;
        frame.words = part.words.clone();
        return new Opened(frame, part, new boolean[1]);
    }

    private int store(Opened each) {
        if (!each.changed[0]) {
            return 0;
        }
        stores++;
        each.part.words = each.frame.words.clone();
        each.changed[0] = false;
        return 1;
    }
}
