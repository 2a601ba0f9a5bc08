/**
 * An object whose servers all know the same writes of every key, none of which replaced another, and
 * whose clients have read them all: what each call on it answers can be told at sight.
 */
final class Level {
    static final int KEYS = 3;
    static final int MOST_WRITES = 40;

    private final int askedServers;
    private final int askedClients;
    private final int servers;
    private final int clients;
    private final int writes;

    Level(int servers, int clients, int writes) {
        this(servers, clients, servers, clients, writes);
    }

    /** Asked for so many servers and clients, and due to have so many. */
    Level(int askedServers, int askedClients, int servers, int clients, int writes) {
        this.askedServers = askedServers;
        this.askedClients = askedClients;
        this.servers = servers;
        this.clients = clients;
        this.writes = writes;
    }

    @Override
    public String toString() {
        return "new(" + askedServers + ", " + askedClients + ") with " + writes + " writes a key: ";
    }

    /** At most 150 calls are spent here, so that 362 are left. */
    DottedSiblings make() {
        DottedSiblings x = new DottedSiblings(askedServers, askedClients);
        for (int key = 0; key < KEYS && writes > 0; key++) {
            for (int write = 0; write < writes; write++) {
                x.put(write % servers, write % clients, key, value(key, write));
            }
            for (int server = 1; server < servers; server++) {
                x.sync(server - 1, server, key);
            }
            // The way up has brought everything to the last server alone.
            for (int server = 0; server < servers - 1; server++) {
                x.sync(servers - 1, server, key);
            }
            for (int client = 0; client < clients; client++) {
                x.get(client % servers, client, key);
            }
        }
        return x;
    }

    /** The smallest and the largest int are values like any other. */
    private static int value(int key, int write) {
        return write == 0 ? Integer.MIN_VALUE : write == 1 ? Integer.MAX_VALUE : 100 * key - write;
    }

    /** How many there are of what the argument names: it may be 0 and up to one less. */
    int bound(Role role) {
        return switch (role) {
            case SERVER -> servers;
            case CLIENT -> clients;
            case KEY -> KEYS;
            case WHAT -> 4;
            case PLACE, WRITE -> writes;
            case VALUE -> Integer.MAX_VALUE;
        };
    }

    boolean refuses(Kind kind, int... a) {
        for (int k = 0; k < a.length; k++) {
            if (kind.roles[k] != Role.VALUE && (a[k] < 0 || a[k] >= bound(kind.roles[k]))) {
                return true;
            }
        }
        return kind == Kind.PUT && writes == MOST_WRITES || kind == Kind.SYNC && a[0] == a[1];
    }

    long due(Kind kind, int... a) {
        if (refuses(kind, a)) {
            return kind.refusal;
        }
        return switch (kind) {
            case GET, PUT, SIBLINGS -> writes;
            case SYNC, FORGET, SEES, SAME -> 1;
            case READ -> value(a[1], writeAt(a[2]));
            case SIBLING -> detail(a[1], writeAt(a[2]), a[3]);
            case KNOWN, CONTEXT -> made(a[2]);
            case WEIGHT -> Math.min(servers, writes) + writes;
        };
    }

    private long detail(int key, int write, int what) {
        return new int[] {value(key, write), write % servers, write / servers + 1, write}[what];
    }

    /** How many of the writes a server made. */
    private int made(int server) {
        return (writes + servers - 1 - server) / servers;
    }

    /** The number of the i-th sibling: they stand by server, then by counter. */
    private int writeAt(int i) {
        int server = 0;
        int left = i;
        while (left >= made(server)) {
            left -= made(server);
            server++;
        }
        return left * servers + server;
    }
}
