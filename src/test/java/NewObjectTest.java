/** Promise 1. */
public final class NewObjectTest {
    private static final Checks CHECKS = new Checks("NewObjectTest");

    public static void main(String[] args) {
        allIsAsAtFirst(new BindingKernel(), "a new object");
        objectsShareNothing();
        CHECKS.end();
    }

    private static void objectsShareNothing() {
        BindingKernel used = new BindingKernel();
        BindingKernel other = new BindingKernel();
        used.append(0, 0, 7);
        used.append(1, 5, 8);
        used.sync(0);
        int ticket = used.bind(2, false);
        used.bind(3, true);
        used.ask(2, ticket);
        used.pass(50);
        allIsAsAtFirst(other, "an object made before another was used");
        allIsAsAtFirst(new BindingKernel(), "an object made after another was used");
    }

    private static void allIsAsAtFirst(BindingKernel x, String which) {
        CHECKS.due(which + ": time", x.time(), 0);
        CHECKS.due(which + ": free frames", x.free(false), 12);
        CHECKS.due(which + ": free blocks", x.free(true), 24);
        CHECKS.due(which + ": loads", x.transfers(false), 0);
        CHECKS.due(which + ": stores", x.transfers(true), 0);
        for (int environment = 0; environment < 4; environment++) {
            CHECKS.due(which + ": held frames", x.held(environment, false), 0);
            CHECKS.due(which + ": held blocks", x.held(environment, true), 0);
            CHECKS.due(which + ": losses", x.losses(environment), 0);
        }
        for (int app = 0; app < 2; app++) {
            for (int name = 0; name < 6; name++) {
                CHECKS.due(which + ": length", x.length(app, name), 0);
                CHECKS.due(which + ": read", x.read(app, name, 0), 0);
            }
        }
        CHECKS.due(which + ": state of guest 2", x.state(2, 0), BindingKernel.NONE);
        CHECKS.due(which + ": state of guest 3", x.state(3, 0), BindingKernel.NONE);
    }
}
