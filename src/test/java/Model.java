import java.util.ArrayList;
import java.util.Comparator;
import java.util.List;
import java.util.Set;
import java.util.TreeSet;

/** The document's terms, word by word, in sets and lists: what the class is compared with. */
final class Model {
    private static final int KEYS = 3;

    private record Write(int number, int value, int server, int counter, Set<Integer> past) {
    }

    private final int servers;
    private final int clients;
    private final List<List<Write>> writes = new ArrayList<>();
    private final List<List<Set<Integer>>> knows = new ArrayList<>();
    private final List<List<Set<Integer>>> contexts = new ArrayList<>();
    private final List<List<List<Integer>>> lastRead = new ArrayList<>();

    Model(int servers, int clients) {
        this.servers = servers >= 1 && servers <= 4 ? servers : 1;
        this.clients = clients >= 1 && clients <= 4 ? clients : 1;
        for (int key = 0; key < KEYS; key++) {
            writes.add(new ArrayList<>());
            knows.add(new ArrayList<>());
            contexts.add(new ArrayList<>());
            lastRead.add(new ArrayList<>());
            for (int server = 0; server < this.servers; server++) {
                knows.get(key).add(new TreeSet<>());
            }
            for (int client = 0; client < this.clients; client++) {
                contexts.get(key).add(new TreeSet<>());
                lastRead.get(key).add(new ArrayList<>());
            }
        }
    }

    private boolean noServer(int server) {
        return server < 0 || server >= servers;
    }

    private boolean noClient(int client) {
        return client < 0 || client >= clients;
    }

    private static boolean noKey(int key) {
        return key < 0 || key >= KEYS;
    }

    private List<Write> siblingsOf(int server, int key) {
        Set<Integer> known = knows.get(key).get(server);
        List<Write> found = new ArrayList<>();
        for (int number : known) {
            boolean replaced = false;
            for (int other : known) {
                replaced |= other != number && writes.get(key).get(other).past().contains(number);
            }
            if (!replaced) {
                found.add(writes.get(key).get(number));
            }
        }
        found.sort(Comparator.comparingInt(Write::server).thenComparingInt(Write::counter));
        return found;
    }

    private int vector(int key, Set<Integer> set, int of) {
        int greatest = 0;
        for (int number : set) {
            Write write = writes.get(key).get(number);
            if (write.server() == of && write.counter() > greatest) {
                greatest = write.counter();
            }
        }
        return greatest;
    }

    int get(int server, int client, int key) {
        if (noServer(server) || noClient(client) || noKey(key)) {
            return -1;
        }
        contexts.get(key).set(client, new TreeSet<>(knows.get(key).get(server)));
        List<Integer> values = new ArrayList<>();
        for (Write write : siblingsOf(server, key)) {
            values.add(write.value());
        }
        lastRead.get(key).set(client, values);
        return values.size();
    }

    long read(int client, int key, int i) {
        if (noClient(client) || noKey(key)) {
            return Long.MIN_VALUE;
        }
        List<Integer> values = lastRead.get(key).get(client);
        return i < 0 || i >= values.size() ? Long.MIN_VALUE : values.get(i);
    }

    int put(int server, int client, int key, int value) {
        if (noServer(server) || noClient(client) || noKey(key) || writes.get(key).size() == 40) {
            return -1;
        }
        int counter = 1;
        for (Write write : writes.get(key)) {
            counter += write.server() == server ? 1 : 0;
        }
        int number = writes.get(key).size();
        Set<Integer> past = new TreeSet<>(contexts.get(key).get(client));
        writes.get(key).add(new Write(number, value, server, counter, past));
        knows.get(key).get(server).addAll(past);
        knows.get(key).get(server).add(number);
        return number;
    }

    boolean sync(int a, int b, int key) {
        if (noServer(a) || noServer(b) || noKey(key) || a == b) {
            return false;
        }
        knows.get(key).get(a).addAll(knows.get(key).get(b));
        knows.get(key).get(b).addAll(knows.get(key).get(a));
        return true;
    }

    boolean forget(int client, int key) {
        if (noClient(client) || noKey(key)) {
            return false;
        }
        contexts.get(key).get(client).clear();
        lastRead.get(key).get(client).clear();
        return true;
    }

    int siblings(int server, int key) {
        return noServer(server) || noKey(key) ? -1 : siblingsOf(server, key).size();
    }

    long sibling(int server, int key, int i, int what) {
        if (noServer(server) || noKey(key) || i < 0 || what < 0 || what > 3) {
            return Long.MIN_VALUE;
        }
        List<Write> found = siblingsOf(server, key);
        if (i >= found.size()) {
            return Long.MIN_VALUE;
        }
        Write write = found.get(i);
        return new int[] {write.value(), write.server(), write.counter(), write.number()}[what];
    }

    int known(int server, int key, int of) {
        return noServer(server) || noKey(key) || noServer(of) ? -1 : vector(key, knows.get(key).get(server), of);
    }

    int context(int client, int key, int of) {
        return noClient(client) || noKey(key) || noServer(of) ? -1 : vector(key, contexts.get(key).get(client), of);
    }

    boolean sees(int client, int key, int write) {
        return !noClient(client) && !noKey(key) && contexts.get(key).get(client).contains(write);
    }

    boolean same(int a, int b, int key) {
        return !noServer(a) && !noServer(b) && !noKey(key) && knows.get(key).get(a).equals(knows.get(key).get(b));
    }

    int weight(int server, int key) {
        if (noServer(server) || noKey(key)) {
            return -1;
        }
        int sum = siblingsOf(server, key).size();
        for (int of = 0; of < servers; of++) {
            sum += known(server, key, of) > 0 ? 1 : 0;
        }
        return sum;
    }
}
