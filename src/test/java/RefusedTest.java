/** "A call that is refused changes nothing", and no call throws, whatever its arguments. */
public final class RefusedTest {
    private static final int SERVERS = 2;
    private static final int CLIENTS = 2;
    private static final int[] ODD = {Integer.MIN_VALUE, -64, -1, 0, 1, 2, 3, 4, 40, 64, Integer.MAX_VALUE};

    private static final Due due = new Due();

    private RefusedTest() {
    }

    public static void main(String[] args) {
        refusedChangesNothing();
        askingChangesNothing();
        fullKeyChangesNothing();
        noCallThrows();
        due.end();
    }

    private static DottedSiblings used() {
        DottedSiblings x = new DottedSiblings(SERVERS, CLIENTS);
        x.put(0, 0, 0, 1);
        x.put(1, 1, 0, 2);
        x.get(0, 0, 0);
        x.put(1, 0, 0, 3);
        x.put(0, 0, 2, 4);
        x.get(0, 1, 2);
        x.get(1, 1, 0);
        x.put(0, 1, 2, 5);
        return x;
    }

    private static void unchanged(String call, DottedSiblings x) {
        due.is("the state after " + call, State.of(used(), SERVERS, CLIENTS), State.of(x, SERVERS, CLIENTS));
    }

    private static boolean valid(int server, int client, int key) {
        return server >= 0 && server < SERVERS && client >= 0 && client < CLIENTS && key >= 0 && key < 3;
    }

    private static void refusedChangesNothing() {
        for (int a : ODD) {
            for (int b : ODD) {
                for (int key : ODD) {
                    refuse(a, b, key);
                }
            }
        }
    }

    // One new object for each call: the state is asked within its 512 calls.
    private static void refuse(int a, int b, int key) {
        String arguments = "(" + a + ", " + b + ", " + key + ")";
        if (!valid(a, b, key)) {
            DottedSiblings x = used();
            due.is("get" + arguments, -1, x.get(a, b, key));
            due.is("put" + arguments, -1, x.put(a, b, key, 9));
            unchanged("get and put" + arguments, x);
        }
        if (!valid(a, b, key) || a == b) {
            DottedSiblings x = used();
            due.is("sync" + arguments, false, x.sync(a, b, key));
            unchanged("sync" + arguments, x);
        }
        if (!valid(0, b, key)) {
            DottedSiblings x = used();
            due.is("forget" + arguments, false, x.forget(b, key));
            unchanged("forget" + arguments, x);
        }
    }

    private static void askingChangesNothing() {
        DottedSiblings x = used();
        State.of(x, SERVERS, CLIENTS);
        unchanged("asking for all of it", x);
    }

    private static void fullKeyChangesNothing() {
        DottedSiblings x = full();
        due.is("put when full", -1, x.put(1, 1, 0, 99));
        due.is("server 0 when full", State.ofServer(full(), 0, 0, SERVERS), State.ofServer(x, 0, 0, SERVERS));
        due.is("server 1 when full", State.ofServer(full(), 1, 0, SERVERS), State.ofServer(x, 1, 0, SERVERS));
        due.is("client 1 when full", State.ofClient(full(), 1, 0, SERVERS), State.ofClient(x, 1, 0, SERVERS));
    }

    private static DottedSiblings full() {
        DottedSiblings x = new DottedSiblings(SERVERS, CLIENTS);
        for (int write = 0; write < 40; write++) {
            x.put(0, 0, 0, write);
            if (write == 20) {
                x.get(0, 1, 0);
            }
        }
        return x;
    }

    private static void noCallThrows() {
        int[][] made = {{1, 1}, {4, 4}, {0, 0}, {Integer.MIN_VALUE, Integer.MAX_VALUE}};
        for (int[] sizes : made) {
            // More than 512 calls too: their answers are free, but none may throw.
            DottedSiblings x = new DottedSiblings(sizes[0], sizes[1]);
            for (int a : ODD) {
                for (int b : ODD) {
                    for (int c : ODD) {
                        for (int d : ODD) {
                            callAll(x, a, b, c, d);
                        }
                    }
                }
            }
        }
    }

    private static void callAll(DottedSiblings x, int a, int b, int c, int d) {
        x.put(a, b, c, d);
        x.get(a, b, c);
        x.read(a, b, c);
        x.sync(a, b, c);
        x.siblings(a, b);
        x.sibling(a, b, c, d);
        x.known(a, b, c);
        x.context(a, b, c);
        x.sees(a, b, c);
        x.same(a, b, c);
        x.weight(a, b);
        x.forget(a, b);
    }
}
