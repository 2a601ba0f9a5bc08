/** For each promise of the document: ordinary inputs, the edges that it names, and wrong inputs. */
public final class PromisesTest {
    private static final int[] WRONG_KEYS = {-1, 3, Integer.MIN_VALUE, Integer.MAX_VALUE};
    private static final int[] FAR = {Integer.MIN_VALUE, -65, -64, -1, 64, 128, Integer.MAX_VALUE};
    private static final long NO_ANSWER = Due.NO_ANSWER;

    private static final Due due = new Due();

    private PromisesTest() {
    }

    public static void main(String[] args) {
        newObjectHasTheServersAndClientsAskedFor();
        newObjectKnowsNothing();
        getReadsWhatTheServerKnows();
        getReplacesTheContext();
        readTellsTheLastReading();
        putTakesTheContextAsPast();
        putTeachesTheServerItsPast();
        putNumbersAndCountsByKey();
        putEndsAtForty();
        putTakesEveryValue();
        syncTeachesBoth();
        forgetDropsOneContext();
        siblingsAreTheGreatest();
        siblingsStandByServerThenCounter();
        siblingTellsFourThings();
        knownIsTheVector();
        contextIsTheVector();
        vectorsCountReplacedWrites();
        seesLooksIntoTheContext();
        sameComparesSets();
        weightCountsNumbersAndSiblings();
        keysAreApart();
        objectsAreApart();
        lastWriteIsInEverySet();
        due.end();
    }

    // Promise 1

    private static void newObjectHasTheServersAndClientsAskedFor() {
        int[] asked = {1, 2, 3, 4, 0, 5, -1, Integer.MIN_VALUE, Integer.MAX_VALUE};
        int[] allowed = {1, 2, 3, 4, 1, 1, 1, 1, 1};
        for (int s = 0; s < asked.length; s++) {
            for (int c = 0; c < asked.length; c++) {
                DottedSiblings x = new DottedSiblings(asked[s], asked[c]);
                String made = "new(" + asked[s] + ", " + asked[c] + ") ";
                for (int server = -1; server <= 5; server++) {
                    boolean there = server >= 0 && server < allowed[s];
                    due.is(made + "siblings(" + server + ", 0)", there ? 0 : -1, x.siblings(server, 0));
                }
                for (int client = -1; client <= 5; client++) {
                    boolean there = client >= 0 && client < allowed[c];
                    due.is(made + "forget(" + client + ", 0)", there, x.forget(client, 0));
                }
            }
        }
    }

    private static void newObjectKnowsNothing() {
        DottedSiblings x = new DottedSiblings(4, 4);
        for (int key = 0; key < 3; key++) {
            for (int a = 0; a < 4; a++) {
                due.is("new siblings", 0, x.siblings(a, key));
                due.is("new weight", 0, x.weight(a, key));
                due.is("new read", NO_ANSWER, x.read(a, key, 0));
                due.is("new sibling", NO_ANSWER, x.sibling(a, key, 0, 0));
                due.is("new sees", false, x.sees(a, key, 0));
                for (int of = 0; of < 4; of++) {
                    due.is("new known", 0, x.known(a, key, of));
                    due.is("new context", 0, x.context(a, key, of));
                    due.is("new same", true, x.same(a, of, key));
                }
            }
        }
        due.is("NONE", -1, DottedSiblings.NONE);
    }

    // Promise 2

    private static void getReadsWhatTheServerKnows() {
        DottedSiblings x = new DottedSiblings(2, 2);
        due.is("get of nothing", 0, x.get(0, 0, 1));
        x.put(0, 0, 1, 7);
        x.put(0, 0, 1, 8);
        due.is("get of two", 2, x.get(0, 1, 1));
        due.is("get at a server that knows none", 0, x.get(1, 0, 1));
        x.put(0, 1, 1, 9);
        due.is("get of one that replaced two", 1, x.get(0, 0, 1));
        due.is("get of another key", 0, x.get(0, 0, 0));
        for (int wrong : new int[] {-1, 2, Integer.MIN_VALUE, Integer.MAX_VALUE}) {
            due.is("get of no server", -1, x.get(wrong, 0, 1));
            due.is("get of no client", -1, x.get(0, wrong, 1));
        }
        for (int key : WRONG_KEYS) {
            due.is("get of no key", -1, x.get(0, 0, key));
        }
    }

    private static void getReplacesTheContext() {
        DottedSiblings x = new DottedSiblings(2, 1);
        x.put(0, 0, 0, 7);
        x.get(0, 0, 0);
        due.is("context after a reading", 1, x.context(0, 0, 0));
        due.is("get at the other server", 0, x.get(1, 0, 0));
        due.is("context is replaced, not joined", 0, x.context(0, 0, 0));
        due.is("sees no more", false, x.sees(0, 0, 0));
        due.is("read no more", NO_ANSWER, x.read(0, 0, 0));
    }

    // Promise 3

    private static void readTellsTheLastReading() {
        DottedSiblings x = new DottedSiblings(2, 2);
        x.put(1, 0, 0, 5);
        x.put(0, 0, 0, 6);
        x.sync(0, 1, 0);
        due.is("get", 2, x.get(0, 1, 0));
        due.is("read first", 6, x.read(1, 0, 0));
        due.is("read second", 5, x.read(1, 0, 1));
        due.is("read third", NO_ANSWER, x.read(1, 0, 2));
        x.put(0, 1, 0, 7);
        x.sync(0, 1, 0);
        due.is("read stays when the server moves on", 6, x.read(1, 0, 0));
        due.is("read stays, second", 5, x.read(1, 0, 1));
        due.is("get again", 1, x.get(1, 1, 0));
        due.is("read is the last reading", 7, x.read(1, 0, 0));
        due.is("read is the last reading, second", NO_ANSWER, x.read(1, 0, 1));
        due.is("a client that read nothing", NO_ANSWER, x.read(0, 0, 0));
        due.is("another key", NO_ANSWER, x.read(1, 1, 0));
        for (int i : FAR) {
            due.is("read(1, 0, " + i + ")", NO_ANSWER, x.read(1, 0, i));
            due.is("read of no client", NO_ANSWER, x.read(i, 0, 0));
        }
        due.is("read of the client after the last", NO_ANSWER, x.read(2, 0, 0));
        for (int key : WRONG_KEYS) {
            due.is("read of no key", NO_ANSWER, x.read(1, key, 0));
        }
        x.forget(1, 0);
        due.is("read after forgetting", NO_ANSWER, x.read(1, 0, 0));
    }

    // Promise 4

    private static void putTakesTheContextAsPast() {
        DottedSiblings x = new DottedSiblings(1, 2);
        due.is("put", 0, x.put(0, 0, 0, 10));
        due.is("a writing leaves the context", 0, x.context(0, 0, 0));
        due.is("put without a context", 1, x.put(0, 0, 0, 11));
        due.is("both stand", 2, x.siblings(0, 0));
        x.get(0, 0, 0);
        due.is("put with a context", 2, x.put(0, 0, 0, 12));
        due.is("it replaced both", 1, x.siblings(0, 0));
        due.is("the context stays as it was", 2, x.context(0, 0, 0));
        due.is("the client does not see its write", false, x.sees(0, 0, 2));
        due.is("put with the same context", 3, x.put(0, 0, 0, 13));
        due.is("it stands beside the one before", 2, x.siblings(0, 0));
        due.is("put of a client without context", 4, x.put(0, 1, 0, 14));
        due.is("it stands beside both", 3, x.siblings(0, 0));
        for (int wrong : new int[] {-1, 2, Integer.MIN_VALUE, Integer.MAX_VALUE}) {
            due.is("put of no server", -1, x.put(wrong, 0, 0, 1));
            due.is("put of no client", -1, x.put(0, wrong, 0, 1));
        }
        due.is("put at the server after the last", -1, x.put(1, 0, 0, 1));
        for (int key : WRONG_KEYS) {
            due.is("put of no key", -1, x.put(0, 0, key, 1));
        }
        due.is("refused writes take no number", 5, x.put(0, 0, 0, 15));
    }

    private static void putTeachesTheServerItsPast() {
        DottedSiblings x = new DottedSiblings(3, 1);
        x.put(0, 0, 0, 10);
        x.put(0, 0, 0, 11);
        x.get(0, 0, 0);
        due.is("put elsewhere", 2, x.put(1, 0, 0, 12));
        due.is("the server knows the past", 2, x.known(1, 0, 0));
        due.is("the server knows the write", 1, x.known(1, 0, 1));
        due.is("the write replaced its past", 1, x.siblings(1, 0));
        due.is("no other server knows it", 0, x.known(0, 0, 1));
        due.is("where it read, both stand", 2, x.siblings(0, 0));
        due.is("a third server knows none", 0, x.known(2, 0, 0));
    }

    private static void putNumbersAndCountsByKey() {
        DottedSiblings x = new DottedSiblings(2, 1);
        due.is("first of key 0", 0, x.put(0, 0, 0, 1));
        due.is("second of key 0", 1, x.put(1, 0, 0, 2));
        due.is("first of key 1", 0, x.put(1, 0, 1, 3));
        due.is("third of key 0", 2, x.put(1, 0, 0, 4));
        due.is("server 0 made one", 1, x.known(0, 0, 0));
        due.is("server 1 made two", 2, x.known(1, 0, 1));
        due.is("server 1 made one of key 1", 1, x.known(1, 1, 1));
        due.is("counter of the last", 2, x.sibling(1, 0, 1, 2));
        due.is("number of the last", 2, x.sibling(1, 0, 1, 3));
    }

    private static void putEndsAtForty() {
        DottedSiblings x = new DottedSiblings(1, 2);
        for (int write = 0; write < 40; write++) {
            due.is("put number " + write, write, x.put(0, 0, 1, 100 + write));
        }
        due.is("put after forty", -1, x.put(0, 0, 1, 200));
        due.is("put after forty, of another client", -1, x.put(0, 1, 1, 200));
        due.is("forty siblings", 40, x.siblings(0, 1));
        due.is("the last counter", 40, x.known(0, 1, 0));
        due.is("the last value", 139, x.sibling(0, 1, 39, 0));
        due.is("none after the last", NO_ANSWER, x.sibling(0, 1, 40, 0));
        due.is("another key is not full", 0, x.put(0, 0, 2, 1));
        due.is("get of forty", 40, x.get(0, 1, 1));
        due.is("read the last", 139, x.read(1, 1, 39));
        due.is("read after the last", NO_ANSWER, x.read(1, 1, 40));
        due.is("sees the last", true, x.sees(1, 1, 39));
        due.is("sees none after it", false, x.sees(1, 1, 40));
    }

    private static void putTakesEveryValue() {
        int[] values = {0, -1, Integer.MIN_VALUE, Integer.MAX_VALUE};
        DottedSiblings x = new DottedSiblings(1, 1);
        for (int value : values) {
            x.put(0, 0, 0, value);
        }
        x.get(0, 0, 0);
        for (int i = 0; i < values.length; i++) {
            due.is("sibling's value", values[i], x.sibling(0, 0, i, 0));
            due.is("read value", values[i], x.read(0, 0, i));
        }
    }

    // Promise 5

    private static void syncTeachesBoth() {
        DottedSiblings x = new DottedSiblings(3, 1);
        due.is("sync of nothing", true, x.sync(0, 1, 0));
        x.put(0, 0, 0, 5);
        x.put(1, 0, 0, 6);
        x.put(1, 0, 1, 7);
        due.is("sync", true, x.sync(1, 0, 0));
        for (int server = 0; server < 2; server++) {
            due.is("knows of 0", 1, x.known(server, 0, 0));
            due.is("knows of 1", 1, x.known(server, 0, 1));
            due.is("has two siblings", 2, x.siblings(server, 0));
        }
        due.is("another key is not synced", 0, x.known(0, 1, 1));
        due.is("another server is not synced", 0, x.siblings(2, 0));
        due.is("sync changes no context", 0, x.context(0, 0, 0));
        due.is("sync again", true, x.sync(0, 1, 0));
        for (int server = 0; server < 3; server++) {
            due.is("sync of one with itself", false, x.sync(server, server, 0));
        }
        for (int wrong : new int[] {-1, 3, Integer.MIN_VALUE, Integer.MAX_VALUE}) {
            due.is("sync with no server", false, x.sync(0, wrong, 0));
            due.is("sync of no server", false, x.sync(wrong, 0, 0));
            due.is("sync of no servers", false, x.sync(wrong, wrong, 0));
        }
        for (int key : WRONG_KEYS) {
            due.is("sync of no key", false, x.sync(0, 1, key));
        }
        x.sync(2, 0, 0);
        x.get(2, 0, 0);
        x.put(2, 0, 0, 8);
        x.sync(1, 2, 0);
        due.is("sync brings what replaced the others", 1, x.siblings(1, 0));
        due.is("the server left out has both still", 2, x.siblings(0, 0));
    }

    // Promise 6

    private static void forgetDropsOneContext() {
        DottedSiblings x = new DottedSiblings(1, 2);
        due.is("forget nothing", true, x.forget(0, 0));
        x.put(0, 0, 0, 5);
        x.put(0, 0, 1, 6);
        x.get(0, 0, 0);
        x.get(0, 0, 1);
        x.get(0, 1, 0);
        due.is("forget", true, x.forget(0, 0));
        due.is("no context", 0, x.context(0, 0, 0));
        due.is("no sight", false, x.sees(0, 0, 0));
        due.is("no reading", NO_ANSWER, x.read(0, 0, 0));
        due.is("another key stays", 6, x.read(0, 1, 0));
        due.is("another client stays", 5, x.read(1, 0, 0));
        due.is("the server stays", 1, x.siblings(0, 0));
        x.put(0, 0, 0, 7);
        due.is("a write after forgetting replaces none", 2, x.siblings(0, 0));
        due.is("forget another key", true, x.forget(0, 1));
        due.is("no context of another key", 0, x.context(0, 1, 0));
        due.is("the other client still stays", 1, x.context(1, 0, 0));
        for (int wrong : new int[] {-1, 2, Integer.MIN_VALUE, Integer.MAX_VALUE}) {
            due.is("forget of no client", false, x.forget(wrong, 0));
        }
        for (int key : WRONG_KEYS) {
            due.is("forget of no key", false, x.forget(0, key));
        }
    }

    // Promise 7

    private static void siblingsAreTheGreatest() {
        DottedSiblings x = new DottedSiblings(2, 2);
        x.put(0, 0, 0, 1);
        x.get(0, 0, 0);
        x.get(0, 1, 0);
        x.put(0, 0, 0, 2);
        x.put(0, 1, 0, 3);
        due.is("two that replaced the same one", 2, x.siblings(0, 0));
        x.sync(0, 1, 0);
        due.is("the same after a sync", 2, x.siblings(1, 0));
        x.put(0, 0, 0, 4);
        due.is("a third with the same past", 3, x.siblings(0, 0));
        x.get(1, 0, 0);
        x.put(0, 0, 0, 5);
        due.is("one that replaced the two it read, not the third", 2, x.siblings(0, 0));
        due.is("the third stands", 4, x.sibling(0, 0, 0, 0));
        due.is("the new one stands", 5, x.sibling(0, 0, 1, 0));
        for (int wrong : new int[] {-1, 2, Integer.MIN_VALUE, Integer.MAX_VALUE}) {
            due.is("siblings of no server", -1, x.siblings(wrong, 0));
        }
        for (int key : WRONG_KEYS) {
            due.is("siblings of no key", -1, x.siblings(0, key));
        }
    }

    // Promise 8

    private static void siblingsStandByServerThenCounter() {
        DottedSiblings x = new DottedSiblings(4, 1);
        int[] makers = {3, 1, 3, 0, 1, 2};
        int[] inOrder = {3, 1, 4, 5, 0, 2};
        int[] counters = {1, 1, 2, 1, 1, 2};
        for (int write = 0; write < makers.length; write++) {
            x.put(makers[write], 0, 2, 50 + write);
        }
        x.sync(0, 1, 2);
        x.sync(2, 3, 2);
        x.sync(0, 2, 2);
        due.is("get", 6, x.get(2, 0, 2));
        for (int i = 0; i < inOrder.length; i++) {
            due.is("value in order", 50 + inOrder[i], x.sibling(2, 2, i, 0));
            due.is("server in order", makers[inOrder[i]], x.sibling(2, 2, i, 1));
            due.is("counter in order", counters[i], x.sibling(2, 2, i, 2));
            due.is("number in order", inOrder[i], x.sibling(2, 2, i, 3));
            due.is("read in order", 50 + inOrder[i], x.read(0, 2, i));
        }
    }

    private static void siblingTellsFourThings() {
        DottedSiblings x = new DottedSiblings(2, 1);
        x.put(1, 0, 0, -9);
        x.put(1, 0, 0, 33);
        due.is("value", 33, x.sibling(1, 0, 1, 0));
        due.is("server", 1, x.sibling(1, 0, 1, 1));
        due.is("counter", 2, x.sibling(1, 0, 1, 2));
        due.is("number", 1, x.sibling(1, 0, 1, 3));
        due.is("value of the first", -9, x.sibling(1, 0, 0, 0));
        due.is("nothing else above", NO_ANSWER, x.sibling(1, 0, 1, 4));
        due.is("none after the last", NO_ANSWER, x.sibling(1, 0, 2, 0));
        due.is("none at a server that knows none", NO_ANSWER, x.sibling(0, 0, 0, 0));
        due.is("no server after the last", NO_ANSWER, x.sibling(2, 0, 0, 0));
        for (int far : FAR) {
            due.is("nothing else", NO_ANSWER, x.sibling(1, 0, 0, far));
            due.is("no such sibling", NO_ANSWER, x.sibling(1, 0, far, 0));
            due.is("no such server", NO_ANSWER, x.sibling(far, 0, 0, 0));
        }
        for (int key : WRONG_KEYS) {
            due.is("no such key", NO_ANSWER, x.sibling(1, key, 0, 0));
        }
    }

    // Promise 9

    private static void knownIsTheVector() {
        DottedSiblings x = new DottedSiblings(3, 1);
        x.put(0, 0, 0, 1);
        x.put(0, 0, 0, 2);
        x.put(2, 0, 0, 3);
        due.is("what it made", 2, x.known(0, 0, 0));
        due.is("what it has not heard of", 0, x.known(0, 0, 2));
        x.sync(1, 0, 0);
        x.put(0, 0, 0, 4);
        due.is("what it heard by syncing", 2, x.known(1, 0, 0));
        due.is("what it made since", 3, x.known(0, 0, 0));
        x.get(0, 0, 0);
        x.put(0, 0, 0, 5);
        due.is("writes that were replaced count", 4, x.known(0, 0, 0));
        for (int wrong : new int[] {-1, 3, Integer.MIN_VALUE, Integer.MAX_VALUE}) {
            due.is("known of no server", -1, x.known(wrong, 0, 0));
            due.is("known about no server", -1, x.known(0, 0, wrong));
        }
        for (int key : WRONG_KEYS) {
            due.is("known of no key", -1, x.known(0, key, 0));
        }
    }

    // Promise 10

    private static void contextIsTheVector() {
        DottedSiblings x = new DottedSiblings(2, 3);
        x.put(0, 2, 0, 1);
        x.put(0, 2, 0, 2);
        x.put(1, 2, 0, 3);
        x.sync(0, 1, 0);
        x.get(1, 2, 0);
        due.is("context of 0", 2, x.context(2, 0, 0));
        due.is("context of 1", 1, x.context(2, 0, 1));
        x.put(1, 2, 0, 4);
        due.is("context stays when writing", 1, x.context(2, 0, 1));
        due.is("context of another client", 0, x.context(0, 0, 0));
        due.is("context of another key", 0, x.context(2, 1, 0));
        x.put(0, 0, 1, 5);
        x.get(0, 2, 1);
        due.is("context of another key that was read", 1, x.context(2, 1, 0));
        due.is("context of the first key stays", 2, x.context(2, 0, 0));
        due.is("context about no server", -1, x.context(2, 0, 2));
        for (int wrong : new int[] {-1, 3, Integer.MIN_VALUE, Integer.MAX_VALUE}) {
            due.is("context of no client", -1, x.context(wrong, 0, 0));
            due.is("context about no server", -1, x.context(2, 0, wrong));
        }
        for (int key : WRONG_KEYS) {
            due.is("context of no key", -1, x.context(2, key, 0));
        }
        x.forget(2, 0);
        due.is("context forgotten", 0, x.context(2, 0, 0));
    }

    private static void vectorsCountReplacedWrites() {
        DottedSiblings x = new DottedSiblings(2, 1);
        x.put(0, 0, 0, 1);
        x.put(0, 0, 0, 2);
        x.get(0, 0, 0);
        x.put(1, 0, 0, 3);
        due.is("get of the one that replaced both", 1, x.get(1, 0, 0));
        due.is("known of replaced ones", 2, x.known(1, 0, 0));
        due.is("context of replaced ones", 2, x.context(0, 0, 0));
        due.is("context of the one that replaced them", 1, x.context(0, 0, 1));
        due.is("weight with the number of replaced ones", 3, x.weight(1, 0));
    }

    // Promise 11

    private static void seesLooksIntoTheContext() {
        DottedSiblings x = new DottedSiblings(2, 2);
        x.put(0, 0, 0, 1);
        x.get(0, 0, 0);
        x.put(0, 0, 0, 2);
        x.put(1, 1, 0, 3);
        x.get(0, 1, 0);
        due.is("sees a write that was replaced", true, x.sees(1, 0, 0));
        due.is("sees a sibling", true, x.sees(1, 0, 1));
        due.is("sees no write of another server", false, x.sees(1, 0, 2));
        due.is("sees no write to come", false, x.sees(1, 0, 3));
        due.is("another client saw less", false, x.sees(0, 0, 1));
        due.is("sees none of another key", false, x.sees(1, 1, 0));
        for (int far : FAR) {
            due.is("sees no write " + far, false, x.sees(1, 0, far));
            due.is("no client sees", false, x.sees(far, 0, 0));
        }
        due.is("no client after the last sees", false, x.sees(2, 0, 0));
        due.is("65 is not 1", false, x.sees(1, 0, 65));
        for (int key : WRONG_KEYS) {
            due.is("sees none of no key", false, x.sees(1, key, 0));
        }
    }

    // Promise 12

    private static void sameComparesSets() {
        DottedSiblings x = new DottedSiblings(3, 2);
        x.put(0, 0, 0, 1);
        due.is("same differs", false, x.same(0, 1, 0));
        due.is("same differs the other way", false, x.same(1, 0, 0));
        due.is("same of one with itself", true, x.same(0, 0, 0));
        due.is("same of two that know none", true, x.same(1, 2, 0));
        due.is("same of another key", true, x.same(0, 1, 1));
        x.sync(0, 1, 0);
        due.is("same after a sync", true, x.same(0, 1, 0));
        x.put(1, 0, 2, 1);
        due.is("same differs in another key", false, x.same(0, 1, 2));
        due.is("same in the first key still", true, x.same(0, 1, 0));
        x.get(0, 0, 0);
        x.put(0, 0, 0, 2);
        due.is("one sibling at the other server", 1, x.siblings(1, 0));
        due.is("as many siblings, not the same writes", false, x.same(0, 1, 0));
        x.put(1, 1, 0, 3);
        due.is("as many writes, not the same ones", false, x.same(0, 1, 0));
        x.sync(1, 0, 0);
        due.is("the same writes, made at both", true, x.same(0, 1, 0));
        for (int wrong : new int[] {-1, 3, Integer.MIN_VALUE, Integer.MAX_VALUE}) {
            due.is("same with no server", false, x.same(0, wrong, 0));
            due.is("same of no server", false, x.same(wrong, 0, 0));
            due.is("same of no server with itself", false, x.same(wrong, wrong, 0));
        }
        for (int key : WRONG_KEYS) {
            due.is("same of no key", false, x.same(0, 0, key));
        }
    }

    // Promise 13

    private static void weightCountsNumbersAndSiblings() {
        DottedSiblings x = new DottedSiblings(4, 1);
        x.put(0, 0, 0, 1);
        due.is("one number, one sibling", 2, x.weight(0, 0));
        x.put(0, 0, 0, 2);
        due.is("one number, two siblings", 3, x.weight(0, 0));
        x.put(3, 0, 0, 3);
        x.sync(0, 3, 0);
        due.is("two numbers, three siblings", 5, x.weight(3, 0));
        x.get(3, 0, 0);
        x.put(1, 0, 0, 4);
        due.is("three numbers, one sibling", 4, x.weight(1, 0));
        due.is("a server that knows none", 0, x.weight(2, 0));
        due.is("another key", 0, x.weight(0, 1));
        for (int wrong : new int[] {-1, 4, Integer.MIN_VALUE, Integer.MAX_VALUE}) {
            due.is("weight of no server", -1, x.weight(wrong, 0));
        }
        for (int key : WRONG_KEYS) {
            due.is("weight of no key", -1, x.weight(0, key));
        }
    }

    // The terms, over all promises

    private static void keysAreApart() {
        DottedSiblings x = new DottedSiblings(2, 1);
        for (int key = 0; key < 3; key++) {
            for (int n = 0; n <= key; n++) {
                due.is("number in key " + key, n, x.put(0, 0, key, 10 * key + n));
            }
        }
        for (int key = 0; key < 3; key++) {
            due.is("get of key " + key, key + 1, x.get(0, 0, key));
            due.is("first of key " + key, 10 * key, x.read(0, key, 0));
            due.is("weight of key " + key, key + 2, x.weight(0, key));
        }
    }

    private static void objectsAreApart() {
        DottedSiblings x = new DottedSiblings(1, 1);
        x.put(0, 0, 0, 1);
        x.get(0, 0, 0);
        DottedSiblings y = new DottedSiblings(1, 1);
        due.is("a second object knows none", 0, y.siblings(0, 0));
        due.is("a second object's client read none", NO_ANSWER, y.read(0, 0, 0));
        due.is("a second object numbers from 0", 0, y.put(0, 0, 0, 2));
        due.is("the first keeps its value", 1, x.sibling(0, 0, 0, 0));
    }

    private static void lastWriteIsInEverySet() {
        DottedSiblings x = new DottedSiblings(2, 1);
        for (int write = 0; write < 39; write++) {
            x.get(0, 0, 0);
            x.put(0, 0, 0, write);
        }
        x.get(0, 0, 0);
        due.is("the fortieth", 39, x.put(1, 0, 0, 39));
        due.is("the fortieth replaced all", 1, x.siblings(1, 0));
        due.is("the fortieth's value", 39, x.sibling(1, 0, 0, 0));
        due.is("vector of 39", 39, x.known(1, 0, 0));
        x.sync(0, 1, 0);
        due.is("the fortieth was synced", 1, x.known(0, 0, 1));
        due.is("and it stands alone", 1, x.get(0, 0, 0));
        due.is("and is seen", true, x.sees(0, 0, 39));
        due.is("and weighs three", 3, x.weight(0, 0));
    }
}
