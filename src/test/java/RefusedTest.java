import java.util.List;

/** "A call that is refused changes nothing", and no call throws, whatever its arguments. */
public final class RefusedTest {
    private static final int KEYS = 3;
    private static final int CALLS_LEFT = 250;
    private static final int[] ODD = {Integer.MIN_VALUE, -64, -1, 0, 1, 2, 3, 4, 40, 64, Integer.MAX_VALUE};

    private static final Due due = new Due();

    private final int servers;
    private final int clients;
    private final int writes;
    private final List<String> before;

    private RefusedTest(int servers, int clients, int writes) {
        this.servers = servers;
        this.clients = clients;
        this.writes = writes;
        before = new State(servers, clients, CALLS_LEFT, this::used).told();
    }

    public static void main(String[] args) {
        int[][] sizes = {{1, 1}, {1, 2}, {2, 1}, {3, 2}, {4, 4}};
        for (int[] size : sizes) {
            for (int writes : new int[] {0, 5, 40}) {
                RefusedTest test = new RefusedTest(size[0], size[1], writes);
                test.questionsChangeNothing();
                test.wrongArgumentsChangeNothing();
                test.syncOfBothTheSameChangesNothing();
                if (writes == 40) {
                    test.putWhenThereAre40ChangesNothing();
                }
            }
        }
        noCallThrows();
        due.end();
    }

    /** Servers that know different writes and clients that read at different servers: 200 calls at most. */
    private DottedSiblings used() {
        DottedSiblings x = new DottedSiblings(servers, clients);
        for (int key = 0; key < KEYS && writes > 0; key++) {
            for (int write = 0; write < writes - 1; write++) {
                int server = (write + key) % servers;
                int client = (write / servers + key) % clients;
                x.put(server, client, key, 100 * key + write);
                if (write % 3 == 1) {
                    x.get((server + 1) % servers, client, key);
                }
                if (write % 8 == 7 && servers > 1) {
                    x.sync(server, (server + 1) % servers, key);
                }
            }
            for (int client = 0; client < clients; client++) {
                x.get((client + 2) % servers, client, key);
            }
            // The last write is one that no client has read.
            x.put(servers - 1, 0, key, -1);
        }
        return x;
    }

    private void unchangedBy(Kind kind, int... a) {
        String call = "new(" + servers + ", " + clients + ") with " + writes + " writes a key: " + kind.text(a);
        due.is(call, kind.refusal, kind.ask(used(), a));
        List<String> after = new State(servers, clients, CALLS_LEFT - 1, () -> {
            DottedSiblings x = used();
            kind.ask(x, a);
            return x;
        }).told();
        due.is("the number of answers after " + call, before.size(), after.size());
        for (int i = 0; i < before.size() && i < after.size(); i++) {
            due.is("after " + call, before.get(i), after.get(i));
        }
    }

    /** What the numbers of an argument's kind stop short of; 41 is never the number or place of a write. */
    private int bound(Role role) {
        return switch (role) {
            case SERVER -> servers;
            case CLIENT -> clients;
            case KEY -> KEYS;
            case WHAT -> 4;
            case PLACE, WRITE -> 41;
            case VALUE -> throw new IllegalArgumentException("every value is allowed");
        };
    }

    /** One argument after the other is wrong, while the others are first all the least and then all the last. */
    private void wrongArgumentsChangeNothing() {
        for (Kind kind : Kind.values()) {
            for (int k = 0; k < kind.roles.length; k++) {
                if (kind.roles[k] != Role.VALUE) {
                    for (int wrong : new int[] {Integer.MIN_VALUE, -1, bound(kind.roles[k]), Integer.MAX_VALUE}) {
                        unchangedBy(kind, withOneWrong(kind, k, wrong, false));
                        unchangedBy(kind, withOneWrong(kind, k, wrong, true));
                    }
                }
            }
        }
    }

    private int[] withOneWrong(Kind kind, int place, int wrong, boolean last) {
        int[] a = new int[kind.roles.length];
        for (int k = 0; k < a.length; k++) {
            boolean few = kind.roles[k] == Role.PLACE || kind.roles[k] == Role.WRITE || kind.roles[k] == Role.VALUE;
            a[k] = last && !few ? bound(kind.roles[k]) - 1 : 0;
        }
        a[place] = wrong;
        return a;
    }

    private void syncOfBothTheSameChangesNothing() {
        for (int server = 0; server < servers; server++) {
            for (int key = 0; key < KEYS; key++) {
                unchangedBy(Kind.SYNC, server, server, key);
            }
        }
    }

    private void putWhenThereAre40ChangesNothing() {
        for (int server = 0; server < servers; server++) {
            for (int client = 0; client < clients; client++) {
                unchangedBy(Kind.PUT, server, client, 0, 99);
                unchangedBy(Kind.PUT, server, client, 2, Integer.MIN_VALUE);
            }
        }
    }

    /** Questions that are not refused change nothing either, however many were asked before. */
    private void questionsChangeNothing() {
        List<String> inShortRows = new State(servers, clients, CALLS_LEFT / 2, this::used).told();
        due.is("asked in shorter rows", before.toString(), inShortRows.toString());
        List<String> afterOthers = new State(servers, clients, CALLS_LEFT - 64, this::usedAndAsked).told();
        due.is("asked after other questions", before.toString(), afterOthers.toString());
    }

    private DottedSiblings usedAndAsked() {
        DottedSiblings x = used();
        for (int key = 0; key < KEYS; key++) {
            for (int server = 0; server < servers; server++) {
                x.siblings(server, key);
                x.sibling(server, key, 0, 0);
                x.known(server, key, 0);
                x.same(server, 0, key);
                x.weight(server, key);
            }
        }
        x.read(0, 0, 0);
        x.context(0, 0, 0);
        x.sees(0, 0, 0);
        return x;
    }

    private static void noCallThrows() {
        int[][] made = {{1, 1}, {4, 4}, {0, 0}, {Integer.MIN_VALUE, Integer.MAX_VALUE}};
        for (int[] sizes : made) {
            // More than 512 calls too: their answers are free, but none may throw.
            DottedSiblings x = new DottedSiblings(sizes[0], sizes[1]);
            for (int a : ODD) {
                for (int b : ODD) {
                    for (int c : ODD) {
                        for (int d : ODD) {
                            callAll(x, a, b, c, d);
                        }
                    }
                }
            }
        }
    }

    private static void callAll(DottedSiblings x, int a, int b, int c, int d) {
        for (Kind kind : Kind.values()) {
            kind.ask(x, a, b, c, d);
        }
    }
}
