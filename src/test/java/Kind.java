import java.util.Arrays;
import java.util.Locale;

/** The calls of the face: what their arguments name, and the answer of a refused one (false counts 0). */
enum Kind {
    GET(-1, Role.SERVER, Role.CLIENT, Role.KEY),
    READ(Due.NO_ANSWER, Role.CLIENT, Role.KEY, Role.PLACE),
    PUT(-1, Role.SERVER, Role.CLIENT, Role.KEY, Role.VALUE),
    SYNC(0, Role.SERVER, Role.SERVER, Role.KEY),
    FORGET(0, Role.CLIENT, Role.KEY),
    SIBLINGS(-1, Role.SERVER, Role.KEY),
    SIBLING(Due.NO_ANSWER, Role.SERVER, Role.KEY, Role.PLACE, Role.WHAT),
    KNOWN(-1, Role.SERVER, Role.KEY, Role.SERVER),
    CONTEXT(-1, Role.CLIENT, Role.KEY, Role.SERVER),
    SEES(0, Role.CLIENT, Role.KEY, Role.WRITE),
    SAME(0, Role.SERVER, Role.SERVER, Role.KEY),
    WEIGHT(-1, Role.SERVER, Role.KEY);

    final long refusal;
    final Role[] roles;

    Kind(long refusal, Role... roles) {
        this.refusal = refusal;
        this.roles = roles;
    }

    /** The call's answer, a boolean as 1 or 0. */
    long ask(DottedSiblings x, int... a) {
        return switch (this) {
            case GET -> x.get(a[0], a[1], a[2]);
            case READ -> x.read(a[0], a[1], a[2]);
            case PUT -> x.put(a[0], a[1], a[2], a[3]);
            case SYNC -> x.sync(a[0], a[1], a[2]) ? 1 : 0;
            case FORGET -> x.forget(a[0], a[1]) ? 1 : 0;
            case SIBLINGS -> x.siblings(a[0], a[1]);
            case SIBLING -> x.sibling(a[0], a[1], a[2], a[3]);
            case KNOWN -> x.known(a[0], a[1], a[2]);
            case CONTEXT -> x.context(a[0], a[1], a[2]);
            case SEES -> x.sees(a[0], a[1], a[2]) ? 1 : 0;
            case SAME -> x.same(a[0], a[1], a[2]) ? 1 : 0;
            case WEIGHT -> x.weight(a[0], a[1]);
        };
    }

    String text(int... a) {
        return name().toLowerCase(Locale.ROOT) + Arrays.toString(a).replace('[', '(').replace(']', ')');
    }
}
