import java.util.EnumMap;
import java.util.List;
import java.util.Map;
import java.util.Set;

/** Calls that are refused or come to a fault: what they answer, what fault() tells then, that nothing is changed. */
final class Refusals {
    private static final Set<String> NAME_FAULTS = Set.of("room", "tale", "sheet", "put", "cell", "copy", "as");

    private final Check check;
    private final Map<World, List<Long>> untouched = new EnumMap<>(World.class);

    Refusals(Check check) {
        this.check = check;
        for (World world : World.values()) {
            untouched.put(world, World.seen(world.make()));
        }
    }

    void due(World world, String call, Due due) {
        String name = Calls.name(call);
        PageDesks x = world.make();
        int earlier = comeToFault(x, due);
        check.due(world + " " + call, Calls.of(x, call), due.answerOf(name));
        check.due(world + " " + call + ", fault() then", x.fault(), faultBehind(name, earlier, due));
        check.due(world + " " + call + " changes nothing", World.seen(x).equals(untouched.get(world)) ? 1 : 0, 1);
    }

    /** A call does not come to what would be due beyond a limit of it. */
    void within(World world, String call, Due beyond) {
        String name = Calls.name(call);
        PageDesks x = world.make();
        int earlier = comeToFault(x, beyond);
        boolean same = Calls.of(x, call) == beyond.answerOf(name) && x.fault() == faultBehind(name, earlier, beyond);
        check.due(world + " " + call + " is within the limit", same ? 0 : 1, 1);
    }

    /** Leaves a fault that is another one than is due next, and changes nothing else. */
    private static int comeToFault(PageDesks x, Due next) {
        Due earlier = next == Due.SIZE ? Due.NULL : Due.SIZE;
        Calls.of(x, earlier == Due.NULL ? "put 3 0 0" : "sheet 0 0 -1");
        return earlier.fault;
    }

    /** Calls that name no faults leave the earlier one. */
    private static int faultBehind(String name, int earlier, Due due) {
        return NAME_FAULTS.contains(name) ? due.fault : earlier;
    }
}
