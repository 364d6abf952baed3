import java.util.EnumMap;
import java.util.HashMap;
import java.util.List;
import java.util.Map;
import java.util.function.ToLongFunction;

/**
 * A call on an object of a world that must leave it as it was: its answer, and
 * that all later calls answer as they do on an object that was not called so.
 */
final class Unchanged {
    private final Check check;
    private final Map<World, Map<Look, List<String>>> untouched = new HashMap<>();

    Unchanged(Check check) {
        this.check = check;
    }

    void due(World world, String call, ToLongFunction<SecondBest> made, long want) {
        for (Look look : Look.values()) {
            SecondBest x = world.make();
            check.due(world + ": " + call, made.applyAsLong(x), want);
            check.due(world + ": " + call + " again", made.applyAsLong(x), want);
            compare(world + " behind " + call + ": ", look.at(x), untouched(world, look));
        }
    }

    void due(World[] worlds, String call, ToLongFunction<SecondBest> made, long want) {
        for (World world : worlds) {
            due(world, call, made, want);
        }
    }

    private List<String> untouched(World world, Look look) {
        return untouched.computeIfAbsent(world, w -> new EnumMap<>(Look.class))
            .computeIfAbsent(look, l -> l.at(world.make()));
    }

    private void compare(String where, List<String> got, List<String> want) {
        int unlike = 0;
        for (int i = 0; i < want.size() && unlike < 3; i++) {
            if (!got.get(i).equals(want.get(i))) {
                System.out.println(where + got.get(i) + ", due is " + want.get(i));
                unlike++;
            }
        }
        check.due(where + "unlike answers", unlike, 0);
    }
}
