import java.util.EnumMap;
import java.util.List;
import java.util.Map;
import java.util.Set;

/** Calls that are refused or come to a fault: what they answer, what fault() tells then, and that nothing is changed. */
final class Refusals {
    static final int NULL = 1, CAST = 2, INDEX = 3, SIZE = 4;
    private static final Set<String> NAME_FAULTS = Set.of("room", "tale", "sheet", "put", "cell", "copy", "as");
    private static final Set<String> ANSWER_LONGS = Set.of("cell", "odds");

    private final Check check;
    private final Map<World, List<Long>> untouched = new EnumMap<>(World.class);

    Refusals(Check check) {
        this.check = check;
        for (World world : World.values()) {
            untouched.put(world, World.seen(world.make()));
        }
    }

    /** What is due of a call: its answer, and the fault that fault() tells behind it. */
    static final class Due {
        final long answer;
        final int fault;
        private final boolean isRefusal;

        private Due(long answer, int fault, boolean isRefusal) {
            this.answer = answer;
            this.fault = fault;
            this.isRefusal = isRefusal;
        }

        static Due refusal(int which) {
            return new Due(which, 0, true);
        }

        static Due fault(int which) {
            return new Due(-10 - which, which, false);
        }

        private long answerOf(String name) {
            return ANSWER_LONGS.contains(name) ? PageDesks.LOST : answer;
        }

        /** A refusal leaves no fault behind a call that names some, and the earlier one behind another call. */
        private int faultBehind(String name, int earlier) {
            return isRefusal && !NAME_FAULTS.contains(name) ? earlier : fault;
        }
    }

    void due(World world, String call, Due due) {
        String name = Calls.name(call);
        PageDesks x = world.make();
        int earlier = comeToFault(x, due.fault);
        check.due(world + " " + call, Calls.of(x, call), due.answerOf(name));
        check.due(world + " " + call + ", fault() then", x.fault(), due.faultBehind(name, earlier));
        check.due(world + " " + call + " changes nothing", World.seen(x).equals(untouched.get(world)) ? 1 : 0, 1);
    }

    void taken(World world, String call, Due isNot) {
        String name = Calls.name(call);
        PageDesks x = world.make();
        int earlier = comeToFault(x, isNot.fault);
        boolean same = Calls.of(x, call) == isNot.answerOf(name) && x.fault() == isNot.faultBehind(name, earlier);
        check.due(world + " " + call + " is within the limit", same ? 0 : 1, 1);
    }

    /** Leaves a fault that is another one than is due next, and changes nothing else. */
    private int comeToFault(PageDesks x, int next) {
        Calls.of(x, next == SIZE ? "put 3 0 0" : "sheet 0 0 -1");
        return next == SIZE ? NULL : SIZE;
    }
}
