import java.util.ArrayList;
import java.util.List;

/**
 * Each sentence of the document that names a boundary case, in the document's order: the numbers just
 * inside a bound, those just outside it, the smallest and the largest int, nothing written and 40 writes.
 * That refused calls change nothing stands in RefusedTest.
 */
public final class EdgesTest {
    private static final int LEAST = Integer.MIN_VALUE;
    private static final int MOST = Integer.MAX_VALUE;
    private static final long NO_ANSWER = Due.NO_ANSWER;

    private static final Due due = new Due();

    private EdgesTest() {
    }

    public static void main(String[] args) {
        callsAreAnsweredUpToThe512th();
        writesAreNumberedFrom0To39();
        fortyWritesAreOfOneKeyNotOfAServer();
        fortyWritesAreCountedReplacedOnesToo();
        refusedWritesAreNotCounted();
        aFullKeyIsReadSyncedAndForgotten();
        countersGoFrom1To40();
        noneIsKnownAtFirst();
        noContextAtFirst();
        vectorIs0ForNone();
        ofAnotherNumber1();
        getOfNoneSuch();
        getOfNothing();
        readOfNoneSuch();
        readOfNothing();
        readOfForgotten();
        putOfNoneSuch();
        putWhenThereAre40();
        putOfEveryValue();
        syncOfNoneSuch();
        syncOfBothTheSame();
        syncOfNothing();
        forgetOfNoneSuch();
        forgetOfNothing();
        siblingsOfNoneSuch();
        siblingOfNoneSuch();
        siblingWhenOthersWereReplaced();
        knownOfNoneSuch();
        contextOfNoneSuch();
        seesOfNoneSuch();
        seesWhatIsWrittenLater();
        sameOfNoneSuch();
        sameOfBothTheSame();
        sameOfNothing();
        weightOfNoneSuch();
        weightCountsNumbersAbove0();
        due.end();
    }

    // The edges of one kind of call, every argument over all of its own

    private static void edgesOf(Kind kind) {
        for (int servers = 1; servers <= 4; servers++) {
            for (int clients = 1; clients <= 4; clients++) {
                for (int writes : new int[] {0, 1, 39, 40}) {
                    edgesOf(kind, new Level(servers, clients, writes));
                }
            }
        }
    }

    // A new object for each call, as the call may change it.
    private static void edgesOf(Kind kind, Level level) {
        for (int[] a : everyChoice(kind, level)) {
            due.is(level + kind.text(a), level.due(kind, a), kind.ask(level.make(), a));
        }
    }

    private static List<int[]> everyChoice(Kind kind, Level level) {
        List<int[]> choices = new ArrayList<>();
        choices.add(new int[kind.roles.length]);
        for (int k = 0; k < kind.roles.length; k++) {
            List<int[]> longer = new ArrayList<>();
            for (int[] choice : choices) {
                for (int edge : edges(kind.roles[k], level.bound(kind.roles[k]))) {
                    int[] next = choice.clone();
                    next[k] = edge;
                    longer.add(next);
                }
            }
            choices = longer;
        }
        return choices;
    }

    private static int[] edges(Role role, int bound) {
        return switch (role) {
            case VALUE -> new int[] {LEAST, 0, MOST};
            case SERVER, CLIENT, KEY -> bound == 1
                    ? new int[] {LEAST, -1, 0, 1, MOST}
                    : new int[] {LEAST, -1, 0, bound - 1, bound, MOST};
            case WHAT -> new int[] {LEAST, -1, 0, 1, 2, 3, 4, MOST};
            // A set of writes may be held in 64 bits: the 64th must not be taken for the first.
            case PLACE, WRITE -> new int[] {LEAST, -64, -1, 0, 1, bound - 1, bound, bound + 1, 64, MOST};
        };
    }

    // "An object is used for at most 512 calls after it has been made"

    private static void callsAreAnsweredUpToThe512th() {
        DottedSiblings x = new DottedSiblings(4, 4);
        for (int call = 1; call <= 510; call++) {
            int write = call - 1;
            due.is("call " + call, write < 120 ? write % 40 : -1, x.put(call % 4, 0, Math.min(write / 40, 2), call));
        }
        due.is("call 511", 10, x.get(3, 3, 2));
        due.is("call 512", 119, x.read(3, 2, 9));
    }

    // "WRITES of a key are numbered from 0 on, 40 at most"

    private static void writesAreNumberedFrom0To39() {
        DottedSiblings x = new DottedSiblings(1, 1);
        for (int key = 0; key < 3; key++) {
            for (int write = 0; write < 40; write++) {
                due.is("number of key " + key, write, x.put(0, 0, key, 7));
            }
            due.is("the 41st of key " + key, -1, x.put(0, 0, key, 7));
            due.is("number of the first", 0, x.sibling(0, key, 0, 3));
            due.is("number of the last", 39, x.sibling(0, key, 39, 3));
        }
    }

    private static void fortyWritesAreOfOneKeyNotOfAServer() {
        DottedSiblings x = new DottedSiblings(4, 4);
        for (int write = 0; write < 40; write++) {
            due.is("number at any server", write, x.put(write % 4, write / 4 % 4, 1, 7));
        }
        for (int server = 0; server < 4; server++) {
            for (int client = 0; client < 4; client++) {
                due.is("the 41st at any server", -1, x.put(server, client, 1, 7));
            }
            due.is("each server made ten", 10, x.known(server, 1, server));
        }
        due.is("the first of key 0", 0, x.put(0, 0, 0, 7));
        due.is("the first of key 2", 0, x.put(0, 0, 2, 7));
    }

    private static void fortyWritesAreCountedReplacedOnesToo() {
        DottedSiblings x = new DottedSiblings(1, 1);
        for (int write = 0; write < 40; write++) {
            due.is("put over the one before", write, x.put(0, 0, 0, write));
            due.is("one sibling", 1, x.get(0, 0, 0));
        }
        due.is("the 41st over the one before", -1, x.put(0, 0, 0, 40));
        due.is("the 40th still stands", 39, x.sibling(0, 0, 0, 0));
        x.forget(0, 0);
        due.is("the 41st without a context", -1, x.put(0, 0, 0, 40));
    }

    private static void refusedWritesAreNotCounted() {
        DottedSiblings x = new DottedSiblings(2, 2);
        for (int write = 0; write < 40; write++) {
            x.put(2, 0, 0, 7);
            x.put(0, -1, 0, 7);
            x.put(0, 0, 3, 7);
            due.is("number after refused ones", write, x.put(1, 1, 0, 7));
        }
        due.is("counter after refused ones", 40, x.sibling(1, 0, 39, 2));
    }

    private static void aFullKeyIsReadSyncedAndForgotten() {
        DottedSiblings x = new DottedSiblings(2, 1);
        for (int write = 0; write < 40; write++) {
            x.put(0, 0, 0, write);
        }
        due.is("sync of 40", true, x.sync(1, 0, 0));
        due.is("get of 40", 40, x.get(1, 0, 0));
        due.is("context of 40", 40, x.context(0, 0, 0));
        due.is("forget of 40", true, x.forget(0, 0));
        due.is("context of none", 0, x.context(0, 0, 0));
        due.is("read of none", NO_ANSWER, x.read(0, 0, 39));
        due.is("get of 40 again", 40, x.get(0, 0, 0));
    }

    // "a write's COUNTER is how many writes of the key its server had made, this one, too"

    private static void countersGoFrom1To40() {
        DottedSiblings x = new DottedSiblings(2, 1);
        for (int write = 0; write < 40; write++) {
            x.put(1, 0, 2, 7);
            due.is("counter of write " + write, write + 1, x.sibling(1, 2, write, 2));
            due.is("vector with write " + write, write + 1, x.known(1, 2, 1));
        }
        x.put(1, 0, 1, 7);
        due.is("the first counter of another key", 1, x.sibling(1, 1, 0, 2));
        x.put(0, 0, 1, 7);
        due.is("the first counter of another server", 1, x.sibling(0, 1, 0, 2));
    }

    // "none of both at first"

    private static void noneIsKnownAtFirst() {
        DottedSiblings x = new DottedSiblings(4, 4);
        for (int key = 0; key < 3; key++) {
            for (int server = 0; server < 4; server++) {
                due.is("siblings at first", 0, x.siblings(server, key));
                due.is("the first sibling at first", NO_ANSWER, x.sibling(server, key, 0, 0));
                due.is("weight at first", 0, x.weight(server, key));
                for (int of = 0; of < 4; of++) {
                    due.is("known at first", 0, x.known(server, key, of));
                    due.is("same at first", true, x.same(server, of, key));
                }
            }
        }
    }

    private static void noContextAtFirst() {
        DottedSiblings x = new DottedSiblings(4, 4);
        for (int key = 0; key < 3; key++) {
            for (int client = 0; client < 4; client++) {
                due.is("read at first", NO_ANSWER, x.read(client, key, 0));
                for (int of = 0; of < 4; of++) {
                    due.is("context at first", 0, x.context(client, key, of));
                    due.is("sees at first", false, x.sees(client, key, of));
                }
            }
        }
        due.is("the first write", 0, x.put(0, 0, 0, 7));
        due.is("a write with no context", 1, x.put(0, 1, 0, 8));
        due.is("it replaces none", 2, x.siblings(0, 0));
    }

    // "(0 for none)"

    private static void vectorIs0ForNone() {
        DottedSiblings x = new DottedSiblings(4, 1);
        x.put(3, 0, 0, 7);
        x.get(3, 0, 0);
        for (int of = 0; of < 4; of++) {
            due.is("known at the maker of " + of, of == 3 ? 1 : 0, x.known(3, 0, of));
            due.is("known at another of " + of, 0, x.known(0, 0, of));
            due.is("known of another key of " + of, 0, x.known(3, 1, of));
            due.is("context of " + of, of == 3 ? 1 : 0, x.context(0, 0, of));
            due.is("context of another key of " + of, 0, x.context(0, 1, of));
        }
    }

    // Promise 1: "servers and clients 1 .. 4 (of another number 1)"

    private static void ofAnotherNumber1() {
        int[] asked = {LEAST, -1, 0, 1, 2, 3, 4, 5, MOST};
        int[] made = {1, 1, 1, 1, 2, 3, 4, 1, 1};
        for (int s = 0; s < asked.length; s++) {
            for (int c = 0; c < asked.length; c++) {
                for (Kind kind : Kind.values()) {
                    edgesOf(kind, new Level(asked[s], asked[c], made[s], made[c], 2));
                }
            }
        }
        onlyOneOfEach(new DottedSiblings(0, 5));
        onlyOneOfEach(new DottedSiblings(5, 0));
        onlyOneOfEach(new DottedSiblings(LEAST, MOST));
        onlyOneOfEach(new DottedSiblings(MOST, LEAST));
    }

    private static void onlyOneOfEach(DottedSiblings x) {
        due.is("the one server and client write", 0, x.put(0, 0, 0, 7));
        due.is("and read", 1, x.get(0, 0, 0));
        for (int other = 1; other <= 5; other++) {
            due.is("no server " + other, -1, x.siblings(other, 0));
            due.is("no client " + other, false, x.forget(other, 0));
            due.is("no vector of " + other, -1, x.known(0, 0, other));
        }
    }

    // Promise 2: "NONE when there are none such"

    private static void getOfNoneSuch() {
        edgesOf(Kind.GET);
    }

    private static void getOfNothing() {
        DottedSiblings x = new DottedSiblings(2, 1);
        due.is("get of a key that nobody wrote", 0, x.get(0, 0, 0));
        x.put(0, 0, 0, 7);
        due.is("get at a server that knows none", 0, x.get(1, 0, 0));
        due.is("get of another key", 0, x.get(0, 0, 1));
        due.is("get of one", 1, x.get(0, 0, 0));
    }

    // Promise 3: "Long.MIN_VALUE when there is none such (also when it forgot the key)"

    private static void readOfNoneSuch() {
        edgesOf(Kind.READ);
    }

    private static void readOfNothing() {
        DottedSiblings x = new DottedSiblings(2, 2);
        x.put(0, 0, 0, 7);
        due.is("of a client that wrote and did not read", NO_ANSWER, x.read(0, 0, 0));
        x.get(0, 0, 0);
        due.is("of a client that read", 7, x.read(0, 0, 0));
        due.is("of another client", NO_ANSWER, x.read(1, 0, 0));
        due.is("of a key that it did not read", NO_ANSWER, x.read(0, 1, 0));
        x.get(1, 0, 0);
        due.is("of a client that read nothing the last time", NO_ANSWER, x.read(0, 0, 0));
    }

    private static void readOfForgotten() {
        DottedSiblings x = new DottedSiblings(1, 2);
        x.put(0, 0, 0, 7);
        x.put(0, 0, 1, 8);
        for (int client = 0; client < 2; client++) {
            x.get(0, client, 0);
            x.get(0, client, 1);
        }
        x.forget(1, 0);
        for (int i : new int[] {LEAST, -1, 0, 1, MOST}) {
            due.is("of what it forgot", NO_ANSWER, x.read(1, 0, i));
        }
        due.is("of a key that it did not forget", 8, x.read(1, 1, 0));
        due.is("of a client that did not forget", 7, x.read(0, 0, 0));
        x.forget(1, 0);
        due.is("of what it forgot twice", NO_ANSWER, x.read(1, 0, 0));
        x.put(0, 1, 0, 9);
        due.is("of what it forgot, and then wrote", NO_ANSWER, x.read(1, 0, 0));
        x.get(0, 1, 0);
        due.is("of what it forgot and read again", 7, x.read(1, 0, 0));
        due.is("and its own write", 9, x.read(1, 0, 1));
    }

    // Promise 4: "NONE when there are none such, or there are 40"

    private static void putOfNoneSuch() {
        edgesOf(Kind.PUT);
    }

    private static void putWhenThereAre40() {
        for (int key = 0; key < 3; key++) {
            DottedSiblings x = new DottedSiblings(3, 2);
            for (int write = 0; write < 39; write++) {
                x.put(0, 0, key, write);
            }
            x.get(0, 1, key);
            due.is("when there are 39", 39, x.put(2, 1, key, 39));
            for (int server = 0; server < 3; server++) {
                due.is("when there are 40, without a context", -1, x.put(server, 0, key, 40));
                due.is("when there are 40, with a context", -1, x.put(server, 1, key, 40));
            }
            due.is("the server that made none knows none", 0, x.siblings(1, key));
            due.is("the 40th replaced the 39", 1, x.siblings(2, key));
            due.is("another key has none", 0, x.put(1, 1, (key + 1) % 3, 40));
        }
    }

    private static void putOfEveryValue() {
        int[] values = {LEAST, LEAST + 1, -1, 0, 1, MOST - 1, MOST};
        DottedSiblings x = new DottedSiblings(1, 1);
        for (int i = 0; i < values.length; i++) {
            due.is("a put of " + values[i], i, x.put(0, 0, 0, values[i]));
        }
        x.get(0, 0, 0);
        for (int i = 0; i < values.length; i++) {
            due.is("the value kept", values[i], x.sibling(0, 0, i, 0));
            due.is("the value read", values[i], x.read(0, 0, i));
        }
    }

    // Promise 5: "false when there are none such, or both are the same"

    private static void syncOfNoneSuch() {
        edgesOf(Kind.SYNC);
    }

    private static void syncOfBothTheSame() {
        for (int servers = 1; servers <= 4; servers++) {
            DottedSiblings x = new DottedSiblings(servers, 1);
            for (int server = -1; server <= servers; server++) {
                due.is("before a write", false, x.sync(server, server, 0));
                x.put(server, 0, 0, 7);
                due.is("after a write", false, x.sync(server, server, 0));
            }
            due.is("the least", false, x.sync(LEAST, LEAST, 0));
            due.is("the most", false, x.sync(MOST, MOST, 0));
        }
    }

    private static void syncOfNothing() {
        DottedSiblings x = new DottedSiblings(2, 1);
        due.is("of two that know none", true, x.sync(0, 1, 0));
        x.put(0, 0, 0, 7);
        due.is("with one that knows none", true, x.sync(0, 1, 0));
        due.is("of two that know the same", true, x.sync(1, 0, 0));
        due.is("it knows one", 1, x.siblings(1, 0));
    }

    // Promise 6: "false when there are none such"

    private static void forgetOfNoneSuch() {
        edgesOf(Kind.FORGET);
    }

    private static void forgetOfNothing() {
        DottedSiblings x = new DottedSiblings(1, 1);
        due.is("of a key that nobody wrote", true, x.forget(0, 0));
        x.put(0, 0, 0, 7);
        due.is("of a key that it did not read", true, x.forget(0, 0));
        x.get(0, 0, 0);
        due.is("of a key that it read", true, x.forget(0, 0));
        due.is("of a key that it forgot", true, x.forget(0, 0));
        due.is("the server knows it still", 1, x.siblings(0, 0));
    }

    // Promise 7: "NONE when there are none such"

    private static void siblingsOfNoneSuch() {
        edgesOf(Kind.SIBLINGS);
    }

    // Promise 8: "Long.MIN_VALUE when there is none such"

    private static void siblingOfNoneSuch() {
        edgesOf(Kind.SIBLING);
    }

    private static void siblingWhenOthersWereReplaced() {
        DottedSiblings x = new DottedSiblings(1, 1);
        for (int write = 0; write < 40; write++) {
            x.get(0, 0, 0);
            x.put(0, 0, 0, 100 + write);
        }
        long[] details = {139, 0, 40, 39};
        for (int what = 0; what < 4; what++) {
            due.is("the one before the first", NO_ANSWER, x.sibling(0, 0, -1, what));
            due.is("the only one", details[what], x.sibling(0, 0, 0, what));
            due.is("a second one", NO_ANSWER, x.sibling(0, 0, 1, what));
            due.is("a 40th one", NO_ANSWER, x.sibling(0, 0, 39, what));
        }
    }

    // Promise 9: "NONE when there are none such"

    private static void knownOfNoneSuch() {
        edgesOf(Kind.KNOWN);
    }

    // Promise 10: "Likewise of a client's context."

    private static void contextOfNoneSuch() {
        edgesOf(Kind.CONTEXT);
        // The server named last is bounded by the servers, not by the clients, and the client the other way.
        DottedSiblings wide = new DottedSiblings(4, 1);
        due.is("of server 3 of 4", 0, wide.context(0, 0, 3));
        due.is("of client 1 of 1", -1, wide.context(1, 0, 0));
        DottedSiblings busy = new DottedSiblings(1, 4);
        due.is("of server 1 of 1", -1, busy.context(0, 0, 1));
        due.is("of client 3 of 4", 0, busy.context(3, 0, 0));
    }

    // Promise 11: "false when there are none such"

    private static void seesOfNoneSuch() {
        edgesOf(Kind.SEES);
    }

    private static void seesWhatIsWrittenLater() {
        DottedSiblings x = new DottedSiblings(1, 1);
        for (int write = 0; write < 40; write++) {
            due.is("before it is written", false, x.sees(0, 0, write));
            x.put(0, 0, 0, 7);
            due.is("before it is read", false, x.sees(0, 0, write));
            x.get(0, 0, 0);
            due.is("after it is read", true, x.sees(0, 0, write));
            due.is("the one after it", false, x.sees(0, 0, write + 1));
            due.is("the one before the first", false, x.sees(0, 0, -1));
        }
    }

    // Promise 12: "false when there are none such"

    private static void sameOfNoneSuch() {
        edgesOf(Kind.SAME);
    }

    private static void sameOfBothTheSame() {
        DottedSiblings x = new DottedSiblings(2, 1);
        x.put(1, 0, 0, 7);
        due.is("one with itself, knowing none", true, x.same(0, 0, 0));
        due.is("one with itself, knowing one", true, x.same(1, 1, 0));
        for (int server : new int[] {LEAST, -1, 2, MOST}) {
            due.is("no server with itself", false, x.same(server, server, 0));
        }
    }

    private static void sameOfNothing() {
        DottedSiblings x = new DottedSiblings(3, 1);
        due.is("two that know none", true, x.same(0, 2, 0));
        x.put(2, 0, 0, 7);
        due.is("one that knows none with one that knows one", false, x.same(0, 2, 0));
        due.is("the other way", false, x.same(2, 0, 0));
        due.is("two others", true, x.same(0, 1, 0));
        // The last write is the only one that they differ in.
        for (int write = 1; write < 39; write++) {
            x.put(0, 0, 0, write);
        }
        x.sync(0, 2, 0);
        due.is("two that know 39", true, x.same(0, 2, 0));
        x.put(0, 0, 0, 39);
        due.is("one that knows 40 with one that knows 39", false, x.same(0, 2, 0));
    }

    // Promise 13: "NONE when there are none such"

    private static void weightOfNoneSuch() {
        edgesOf(Kind.WEIGHT);
    }

    private static void weightCountsNumbersAbove0() {
        DottedSiblings x = new DottedSiblings(4, 1);
        due.is("no number, no sibling", 0, x.weight(3, 0));
        for (int server = 0; server < 4; server++) {
            x.put(server, 0, 0, 7);
            x.sync(3, server, 0);
            x.get(3, 0, 0);
        }
        due.is("every number, one sibling", 5, x.weight(3, 0));
        for (int write = 4; write < 40; write++) {
            x.put(3, 0, 0, 7);
        }
        due.is("every number, 36 siblings", 40, x.weight(3, 0));
    }
}
