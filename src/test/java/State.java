import java.util.ArrayList;
import java.util.List;
import java.util.function.Supplier;

/** Everything that the calls tell of an object, told by twins of it, as one object answers 512 calls only. */
final class State {
    private static final int KEYS = 3;
    private static final int WRITES = 40;

    private final int servers;
    private final int clients;
    private final int callsLeft;
    private final Supplier<DottedSiblings> maker;

    private DottedSiblings asked;
    private int callsMade;

    /** The maker makes the same object each time, and leaves so many of its 512 calls. */
    State(int servers, int clients, int callsLeft, Supplier<DottedSiblings> maker) {
        this.servers = servers;
        this.clients = clients;
        this.callsLeft = callsLeft;
        this.maker = maker;
    }

    /** The answers, each with its call. */
    List<String> told() {
        asked = null;
        List<String> told = new ArrayList<>();
        for (int key = 0; key < KEYS; key++) {
            for (int server = 0; server < servers; server++) {
                tellServer(told, server, key);
            }
            for (int client = 0; client < clients; client++) {
                tellClient(told, client, key);
            }
        }
        tellLaterCalls(told);
        return told;
    }

    private long tell(List<String> told, Kind kind, int... a) {
        if (asked == null || callsMade == callsLeft) {
            asked = maker.get();
            callsMade = 0;
        }
        callsMade++;
        long answer = kind.ask(asked, a);
        told.add(kind.text(a) + " = " + answer);
        return answer;
    }

    private void tellServer(List<String> told, int server, int key) {
        tell(told, Kind.WEIGHT, server, key);
        long count = tell(told, Kind.SIBLINGS, server, key);
        for (int i = 0; i <= count; i++) {
            for (int what = 0; what < 4; what++) {
                tell(told, Kind.SIBLING, server, key, i, what);
            }
        }
        for (int of = 0; of < servers; of++) {
            tell(told, Kind.KNOWN, server, key, of);
            tell(told, Kind.SAME, server, of, key);
        }
    }

    private void tellClient(List<String> told, int client, int key) {
        for (int i = 0; tell(told, Kind.READ, client, key, i) != Due.NO_ANSWER; i++) {
            // The loop's own question is all there is to tell.
        }
        for (int of = 0; of < servers; of++) {
            tell(told, Kind.CONTEXT, client, key, of);
        }
        for (int write = 0; write <= WRITES; write++) {
            tell(told, Kind.SEES, client, key, write);
        }
    }

    /** What no question shows by itself: the numbers, counters and pasts that the next writes get. */
    private void tellLaterCalls(List<String> told) {
        for (int server = 0; server < servers; server++) {
            asked = null;
            for (int key = 0; key < KEYS; key++) {
                for (int client = 0; client < clients; client++) {
                    tell(told, Kind.PUT, server, client, key, 1000 + client);
                }
                tell(told, Kind.SYNC, server, (server + 1) % servers, key);
                long count = tell(told, Kind.GET, server, 0, key);
                for (int i = 0; i < count && i < 8; i++) {
                    tell(told, Kind.SIBLING, server, key, (int) count - 1 - i, 2);
                    tell(told, Kind.SIBLING, server, key, (int) count - 1 - i, 3);
                    tell(told, Kind.READ, 0, key, i);
                }
                tell(told, Kind.FORGET, clients - 1, key);
                tell(told, Kind.WEIGHT, server, key);
            }
        }
    }
}
