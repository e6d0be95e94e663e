import java.util.List;
import java.util.function.Supplier;

/** Calls at an edge, each on a fresh object: those that are taken, and those that are refused. */
final class Edges {
    interface Call {
        long on(PurseTrace x);
    }

    interface Telling {
        boolean on(PurseTrace x);
    }

    private final Due due;
    private final Supplier<PurseTrace> world;
    private final List<String> before;

    /** The world makes the same object each time that it is asked. */
    Edges(Due due, Supplier<PurseTrace> world) {
        this.due = due;
        this.world = world;
        this.before = Portrait.of(world.get());
    }

    /** The call answers this; answers the object, for what is asked of it then. */
    PurseTrace taken(String name, long want, Call call) {
        PurseTrace x = world.get();
        due.is(name, call.on(x), want);
        return x;
    }

    PurseTrace taken(String name, Telling telling) {
        return taken(name, 1, x -> telling.on(x) ? 1 : 0);
    }

    /** The call answers this, and the object is as one that was never asked. */
    void refused(String name, long want, Call call) {
        PurseTrace x = world.get();
        due.is(name, call.on(x), want);
        List<String> behind = Portrait.of(x);
        due.is("answers behind " + name, behind.size(), before.size());
        for (int i = 0; i < behind.size() && i < before.size(); i++) {
            boolean same = behind.get(i).equals(before.get(i));
            due.is(before.get(i) + ", but behind " + name + " " + behind.get(i), same, true);
        }
    }

    void refused(String name, Call call) {
        refused(name, PurseTrace.NONE, call);
    }

    void refusedTelling(String name, Telling telling) {
        refused(name, 0, x -> telling.on(x) ? 1 : 0);
    }
}
