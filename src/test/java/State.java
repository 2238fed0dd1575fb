import java.util.List;
import java.util.function.Consumer;
import java.util.function.Supplier;

/** A land in which edges are tried: how it is made, again and again, and all that can be seen of it. */
final class State {
    final String name;
    private final Supplier<LionShield> maker;
    private List<String> seen = null;

    State(String name, Supplier<LionShield> maker) {
        this.name = name;
        this.maker = maker;
    }

    LionShield make() {
        return maker.get();
    }

    /** The same land, gone on from. */
    State then(String more, Consumer<LionShield> calls) {
        return new State(name + ", " + more, () -> {
            LionShield x = make();
            calls.accept(x);
            return x;
        });
    }

    List<String> seen() {
        if (seen == null) {
            seen = Seen.of(maker);
        }
        return seen;
    }
}
