/** One thread lends its console to another with a CALL, and takes it back once it is answered. */
public final class Example {
    static int word(int op, int a, int b, int c, int n) {
        return op | a << 5 | b << 8 | c << 11 | n << 14;
    }

    public static void main(String[] args) {
        GrantKernel kernel = new GrantKernel(3);

        kernel.poke(0, word(1, 1, 0, 0, 21));   // register 1 = 21
        kernel.poke(1, word(16, 0, 1, 1, 1));   // CALL register 1 by slot 0, and what is in slot 1 with it
        kernel.poke(2, word(21, 1, 0, 0, 0));   // REVOKE what was derived from slot 1
        kernel.poke(3, word(0, 0, 0, 0, 0));    // the thread is halted
        int client = kernel.spawn(0, 0, 4);     // counter 0, a piece from word 0 on, 4 words
        kernel.give(client, 0, 1, 0, 1 + 4);    // slot 0: endpoint 0 with SEND and GRANT
        kernel.give(client, 1, 2, 0, 1);        // slot 1: the console with SEND

        kernel.poke(10, word(17, 0, 2, 3, 0));  // RECEIVE by slot 0: a word to register 2, a capability to slot 3
        kernel.poke(11, word(3, 2, 2, 2, 0));   // register 2 = register 2 + register 2
        kernel.poke(12, word(14, 3, 2, 0, 0));  // PRINT register 2 by slot 3
        kernel.poke(13, word(18, 0, 2, 0, 0));  // ANSWER register 2
        kernel.poke(14, word(13, 0, 0, 0, 0));  // YIELD
        kernel.poke(15, word(14, 3, 2, 0, 0));  // PRINT again: the console was taken back meanwhile
        int server = kernel.spawn(0, 10, 6);
        kernel.give(server, 0, 1, 0, 2);        // slot 0: endpoint 0 with RECEIVE

        System.out.println("steps until the server has printed: " + kernel.step(5));
        System.out.println("printed: " + kernel.printed() + ", the latest: " + kernel.print(0));
        System.out.println("caller of the server: " + kernel.caller(server));
        System.out.println("parent of its console: " + kernel.capability(server, 3, 3));
        System.out.println("steps until the row is empty: " + kernel.step(50));
        System.out.println("the client's state: " + kernel.state(client) + ", its register 1: " + kernel.register(client, 1));
        System.out.println("the server's state: " + kernel.state(server) + ", its fault: " + kernel.fault(server));
    }
}
