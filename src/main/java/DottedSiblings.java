/**
 * A store on servers that keeps, for each key, the values that no later write replaced.
 *
 * <p>A set of writes of one key is held as a long, bit w standing for write w: a key has at most 40
 * writes, so one long is always enough, and no call has to make an object.
 */
public final class DottedSiblings {
    public static final int NONE = -1;

    private static final long NO_ANSWER = Long.MIN_VALUE;
    private static final int KEYS = 3;
    private static final int MOST_WRITES = 40;
    private static final int MOST_PARTIES = 4;

    private static final int VALUE = 0;
    private static final int SERVER = 1;
    private static final int COUNTER = 2;
    private static final int NUMBER = 3;

    private final int servers;
    private final int clients;

    /** By key: how many writes there are. */
    private final int[] written;

    /** By key, then by write. */
    private final int[][] values;
    private final int[][] makers;
    private final int[][] counters;
    private final long[][] pasts;

    /** By key, then by server or by client: a set of writes. */
    private final long[][] knownSets;
    private final long[][] contextSets;

    public DottedSiblings(int servers, int clients) {
        this.servers = allowedParties(servers);
        this.clients = allowedParties(clients);
        written = new int[KEYS];
        values = new int[KEYS][MOST_WRITES];
        makers = new int[KEYS][MOST_WRITES];
        counters = new int[KEYS][MOST_WRITES];
        pasts = new long[KEYS][MOST_WRITES];
        knownSets = new long[KEYS][this.servers];
        contextSets = new long[KEYS][this.clients];
    }

    public int get(int server, int client, int key) {
        if (!isServer(server) || !isClient(client) || !isKey(key)) {
            return NONE;
        }
        contextSets[key][client] = knownSets[key][server];
        return Long.bitCount(greatestOf(key, knownSets[key][server]));
    }

    public long read(int client, int key, int i) {
        if (!isClient(client) || !isKey(key)) {
            return NO_ANSWER;
        }
        // A write's past never changes, so the context alone still tells which siblings were read.
        int write = siblingAt(key, contextSets[key][client], i);
        return write == NONE ? NO_ANSWER : values[key][write];
    }

    public int put(int server, int client, int key, int value) {
        if (!isServer(server) || !isClient(client) || !isKey(key) || written[key] >= MOST_WRITES) {
            return NONE;
        }
        int write = written[key];
        long past = contextSets[key][client];
        values[key][write] = value;
        makers[key][write] = server;
        // A server knows every write that it made, so its own vector counts them.
        counters[key][write] = vectorAt(key, knownSets[key][server], server) + 1;
        pasts[key][write] = past;
        knownSets[key][server] |= past | 1L << write;
        written[key] = write + 1;
        return write;
    }

    public boolean sync(int a, int b, int key) {
        if (!isServer(a) || !isServer(b) || a == b || !isKey(key)) {
            return false;
        }
        long either = knownSets[key][a] | knownSets[key][b];
        knownSets[key][a] = either;
        knownSets[key][b] = either;
        return true;
    }

    public boolean forget(int client, int key) {
        if (!isClient(client) || !isKey(key)) {
            return false;
        }
        contextSets[key][client] = 0L;
        return true;
    }

    public int siblings(int server, int key) {
        if (!isServer(server) || !isKey(key)) {
            return NONE;
        }
        return Long.bitCount(greatestOf(key, knownSets[key][server]));
    }

    public long sibling(int server, int key, int i, int what) {
        if (!isServer(server) || !isKey(key)) {
            return NO_ANSWER;
        }
        int write = siblingAt(key, knownSets[key][server], i);
        return write == NONE ? NO_ANSWER : detailOf(key, write, what);
    }

    public int known(int server, int key, int of) {
        if (!isServer(server) || !isKey(key) || !isServer(of)) {
            return NONE;
        }
        return vectorAt(key, knownSets[key][server], of);
    }

    public int context(int client, int key, int of) {
        if (!isClient(client) || !isKey(key) || !isServer(of)) {
            return NONE;
        }
        return vectorAt(key, contextSets[key][client], of);
    }

    public boolean sees(int client, int key, int write) {
        if (!isClient(client) || !isKey(key) || write < 0 || write >= written[key]) {
            return false;
        }
        return has(contextSets[key][client], write);
    }

    public boolean same(int a, int b, int key) {
        if (!isServer(a) || !isServer(b) || !isKey(key)) {
            return false;
        }
        return knownSets[key][a] == knownSets[key][b];
    }

    public int weight(int server, int key) {
        if (!isServer(server) || !isKey(key)) {
            return NONE;
        }
        long set = knownSets[key][server];
        int numbers = 0;
        for (int of = 0; of < servers; of++) {
            if (vectorAt(key, set, of) > 0) {
                numbers++;
            }
        }
        return numbers + Long.bitCount(greatestOf(key, set));
    }

    private static int allowedParties(int asked) {
        return asked >= 1 && asked <= MOST_PARTIES ? asked : 1;
    }

    private boolean isServer(int server) {
        return server >= 0 && server < servers;
    }

    private boolean isClient(int client) {
        return client >= 0 && client < clients;
    }

    private static boolean isKey(int key) {
        return key >= 0 && key < KEYS;
    }

    private static boolean has(long set, int write) {
        return (set >>> write & 1L) != 0L;
    }

    /** The writes of the set that are in the past of no other write of the set. */
    private long greatestOf(int key, long set) {
        long replaced = 0L;
        for (int write = 0; write < written[key]; write++) {
            if (has(set, write)) {
                replaced |= pasts[key][write];
            }
        }
        return set & ~replaced;
    }

    /** The number of the set's i-th sibling; NONE when there is none such. */
    private int siblingAt(int key, long set, int i) {
        long greatest = greatestOf(key, set);
        int before = 0;
        for (int server = 0; server < servers; server++) {
            // Among the writes of one server, counters rise as numbers do.
            for (int write = 0; write < written[key]; write++) {
                if (makers[key][write] == server && has(greatest, write)) {
                    if (before == i) {
                        return write;
                    }
                    before++;
                }
            }
        }
        return NONE;
    }

    private long detailOf(int key, int write, int what) {
        switch (what) {
            case VALUE:
                return values[key][write];
            case SERVER:
                return makers[key][write];
            case COUNTER:
                return counters[key][write];
            case NUMBER:
                return write;
            default:
                return NO_ANSWER;
        }
    }

    /** What the vector of the set has for a server. */
    private int vectorAt(int key, long set, int server) {
        int greatest = 0;
        for (int write = 0; write < written[key]; write++) {
            if (makers[key][write] == server && has(set, write)) {
                greatest = Math.max(greatest, counters[key][write]);
            }
        }
        return greatest;
    }
}
