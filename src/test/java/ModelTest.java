/** Many runs of 512 calls each, every answer compared with the one of the model. */
public final class ModelTest {
    private static final int RUNS = 3000;
    private static final int CALLS = 512;
    private static final int[] FAR = {Integer.MIN_VALUE, -64, 40, 63, 64, 65, Integer.MAX_VALUE};

    private static final Due due = new Due();

    private long seed;
    private final DottedSiblings x;
    private final Model model;
    private final int keys;

    private ModelTest(int run) {
        seed = run;
        int servers = pick(-1, 6);
        int clients = pick(-1, 6);
        if (run % 8 != 0) {
            servers = pick(1, 4);
            clients = pick(1, 4);
        }
        // Runs on one key alone reach the 40th write early.
        keys = pick(1, 3);
        x = new DottedSiblings(servers, clients);
        model = new Model(servers, clients);
    }

    public static void main(String[] args) {
        for (int run = 0; run < RUNS && !due.anyWrong(); run++) {
            ModelTest test = new ModelTest(run);
            for (int call = 0; call < CALLS && !due.anyWrong(); call++) {
                test.callOne("run " + run + " call " + call + ": ");
            }
        }
        due.end();
    }

    // The same numbers in every run of the test, so that a fault can be seen again.
    private int pick(int least, int most) {
        seed = seed * 6364136223846793005L + 1442695040888963407L;
        return least + (int) ((seed >>> 33) % (most - least + 1));
    }

    private int party() {
        return pick(0, 39) == 0 ? FAR[pick(0, FAR.length - 1)] : pick(0, 19) == 0 ? pick(-1, 5) : pick(0, 3);
    }

    private int key() {
        return pick(0, 39) == 0 ? FAR[pick(0, FAR.length - 1)] : pick(0, 19) == 0 ? pick(-1, 4) : pick(0, keys - 1);
    }

    private int place() {
        return pick(0, 19) == 0 ? FAR[pick(0, FAR.length - 1)] : pick(0, 3) == 0 ? pick(-1, 41) : pick(0, 6);
    }

    private void callOne(String at) {
        int kind = pick(0, 19);
        if (kind < 9) {
            change(at, kind);
        } else {
            ask(at, kind);
        }
    }

    private void change(String at, int kind) {
        int a = party();
        int b = party();
        int key = key();
        String arguments = "(" + a + ", " + b + ", " + key + ")";
        if (kind < 3) {
            int value = pick(0, 9) == 0 ? FAR[pick(0, FAR.length - 1)] : pick(-1000, 1000);
            due.is(at + "put" + arguments, model.put(a, b, key, value), x.put(a, b, key, value));
        } else if (kind < 6) {
            due.is(at + "get" + arguments, model.get(a, b, key), x.get(a, b, key));
        } else if (kind < 8) {
            due.is(at + "sync" + arguments, model.sync(a, b, key), x.sync(a, b, key));
        } else if (pick(0, 2) == 0) {
            due.is(at + "forget" + arguments, model.forget(b, key), x.forget(b, key));
        }
    }

    private void ask(String at, int kind) {
        int a = party();
        int b = party();
        int key = key();
        int i = place();
        int what = pick(-1, 4);
        String arguments = "(" + a + ", " + b + ", " + key + ", " + i + ", " + what + ")";
        switch (kind) {
            case 9, 10 -> due.is(at + "read" + arguments, model.read(a, key, i), x.read(a, key, i));
            case 11 -> due.is(at + "siblings" + arguments, model.siblings(a, key), x.siblings(a, key));
            case 12, 13, 14 -> due.is(at + "sibling" + arguments, model.sibling(a, key, i, what), x.sibling(a, key, i, what));
            case 15 -> due.is(at + "known" + arguments, model.known(a, key, b), x.known(a, key, b));
            case 16 -> due.is(at + "context" + arguments, model.context(a, key, b), x.context(a, key, b));
            case 17 -> due.is(at + "sees" + arguments, model.sees(a, key, i), x.sees(a, key, i));
            case 18 -> due.is(at + "same" + arguments, model.same(a, b, key), x.same(a, b, key));
            default -> due.is(at + "weight" + arguments, model.weight(a, key), x.weight(a, key));
        }
    }
}
