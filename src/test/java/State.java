/** Everything that the calls that change nothing tell of an object. */
final class State {
    private static final int KEYS = 3;

    private State() {
    }

    /** For small objects alone: an object is promised to answer 512 calls only. */
    static String of(DottedSiblings x, int servers, int clients) {
        StringBuilder out = new StringBuilder();
        for (int key = 0; key < KEYS; key++) {
            for (int server = 0; server < servers; server++) {
                out.append(ofServer(x, server, key, servers));
            }
            for (int client = 0; client < clients; client++) {
                out.append(ofClient(x, client, key, servers));
            }
        }
        return out.toString();
    }

    static String ofServer(DottedSiblings x, int server, int key, int servers) {
        StringBuilder out = new StringBuilder();
        int count = x.siblings(server, key);
        out.append("server ").append(server).append(" key ").append(key);
        out.append(" weight ").append(x.weight(server, key)).append(" siblings ").append(count).append(':');
        for (int i = 0; i < count; i++) {
            for (int what = 0; what < 4; what++) {
                out.append(' ').append(x.sibling(server, key, i, what));
            }
            out.append(';');
        }
        for (int of = 0; of < servers; of++) {
            out.append(' ').append(x.known(server, key, of)).append(x.same(server, of, key) ? '=' : '~');
        }
        return out.append('\n').toString();
    }

    static String ofClient(DottedSiblings x, int client, int key, int servers) {
        StringBuilder out = new StringBuilder();
        out.append("client ").append(client).append(" key ").append(key).append(" read");
        for (int i = 0; i == 0 || x.read(client, key, i - 1) != Due.NO_ANSWER; i++) {
            out.append(' ').append(x.read(client, key, i));
        }
        out.append(" context");
        for (int of = 0; of < servers; of++) {
            out.append(' ').append(x.context(client, key, of));
        }
        out.append(" sees ");
        for (int write = 0; write < 8; write++) {
            out.append(x.sees(client, key, write) ? '1' : '0');
        }
        return out.append('\n').toString();
    }
}
