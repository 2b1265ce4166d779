/** Words in a file, a frame that a guest loses, and an application that waits for a frame. */
public final class Example {
    public static void main(String[] args) {
        BindingKernel kernel = new BindingKernel();

        kernel.append(0, 2, 41);
        kernel.append(0, 2, 42);
        System.out.println("file 2 of application 0 has " + kernel.length(0, 2) + " words");
        System.out.println("its word 1 is " + kernel.read(0, 2, 1));

        int ticket = kernel.bind(3, false);
        kernel.put(3, ticket, 0, 7);
        System.out.println("word 0 of guest 3's frame is " + kernel.get(3, ticket, 0));
        kernel.ask(3, ticket);
        System.out.println("the kernel took " + kernel.pass(5) + " binding");
        System.out.println("the state of ticket " + ticket + " is " + kernel.state(3, ticket));

        int answer = kernel.bind(2, false);
        while (answer >= 0) {
            answer = kernel.bind(2, false);
        }
        System.out.println("refused: " + (answer == BindingKernel.REFUSED));
        System.out.println("guest 2 holds " + kernel.held(2, false) + " frames");
        kernel.append(1, 0, 5);
        System.out.println("application 1 waited until the time " + kernel.time());
        System.out.println("guest 2 has " + kernel.losses(2) + " loss");
    }
}
