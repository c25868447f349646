import java.util.ArrayList;
import java.util.List;

/**
 * Of several refusals and faults of a call the first is answered, in the order in which its line tells them: whatever
 * can be wrong is made wrong in all ways together. Behind each of them fault() and all else are as they are due.
 */
public final class OrderTest {
    private static final Check C = new Check("OrderTest");
    private static final Refusals R = new Refusals(C);

    /** What makes a call wrong: a number in a place of it, told as "UNKNOWN 0:4". */
    private static final class Wrong {
        final Due due;
        final int place;
        final int number;

        Wrong(String told) {
            String[] parts = told.split("[ :]");
            due = Due.named(parts[0]);
            place = Integer.parseInt(parts[1]);
            number = Integer.parseInt(parts[2]);
        }
    }

    public static void main(String[] args) {
        theRoom();
        asks();
        tales();
        missed();
        whatLayThere();
        sheets();
        copies();
        kinds();
        withoutRoom();
        C.end();
    }

    /** Promises 2 to 6. Nothing is no CAST, so that NULL stands ahead of it where both could be. */
    private static void theRoom() {
        Due firstFault = Due.refusal(-100);
        order(World.BUSY, "room 2 2 0 6", firstFault, "UNKNOWN 0:4", "OUTSIDE 1:3", "NULL 0:3", "CAST 1:1",
            "SIZE 3:-1", "INDEX 2:-1", "INDEX 2:7", "INDEX 3:7");
        order(World.BUSY, "ofDesk 0 0", null, "UNKNOWN 0:3", "OUTSIDE 1:6");
        order(World.BUSY, "lies 0 0", null, "UNKNOWN 0:3", "OUTSIDE 1:5");
        order(World.BUSY, "build 0 5", null, "UNKNOWN 0:3", "OUTSIDE 1:6", "OUTSIDE 1:0");
    }

    /** Promises 7 to 10. */
    private static void asks() {
        order(World.BUSY, "come 5", Due.STATE, "OUTSIDE 0:25", "OUTSIDE 0:0");
        order(World.FULL, "come 1", Due.STATE, "OUTSIDE 0:25", "OUTSIDE 0:0");
        order(World.FULL, "ask 0", Due.FULL, "OUTSIDE 0:8", "OUTSIDE 0:-1");
        R.due(World.FULL, "drop", Due.STATE);
        R.due(World.LEAST, "drop", Due.STATE);
    }

    /** Promise 11: a cell that is no page comes last. */
    private static void tales() {
        order(World.BUSY, "tale 1 1 0 1 0 0", Due.OUTSIDE, "UNKNOWN 0:4", "UNKNOWN 4:3", "OUTSIDE 1:3",
            "OUTSIDE 3:21", "OUTSIDE 3:-1", "OUTSIDE 5:5", "NULL 0:3", "CAST 1:2", "INDEX 2:-1", "INDEX 2:5",
            "INDEX 3:5");
    }

    /** Promises 12, 14, 15, 16, 18. */
    private static void missed() {
        order(World.BUSY, "misses 0 1", null, "UNKNOWN 0:3", "OUTSIDE 1:9", "OUTSIDE 1:0");
        order(World.BUSY, "need 0 1", null, "UNKNOWN 0:3", "OUTSIDE 1:25", "OUTSIDE 1:-1");
        order(World.BUSY, "fewest 1", null, "OUTSIDE 0:9", "OUTSIDE 0:0");
        order(World.BUSY, "latest 1 0", null, "UNKNOWN 1:9", "OUTSIDE 0:9", "OUTSIDE 0:0");
        order(World.BUSY, "work 0 1", null, "UNKNOWN 0:9", "OUTSIDE 1:25", "OUTSIDE 1:0");
    }

    /** Promises 19, 20, 23. */
    private static void whatLayThere() {
        order(World.FULL, "reading 0 0 0", Due.FULL, "UNKNOWN 0:4", "UNKNOWN 1:24", "OUTSIDE 2:2");
        order(World.BUSY, "back 0", null, "OUTSIDE 0:4", "OUTSIDE 0:-1");
        order(World.BUSY, "odds 0 1 0", null, "UNKNOWN 0:3", "OUTSIDE 1:4", "OUTSIDE 2:2");
    }

    /** Promises 24 to 27. */
    private static void sheets() {
        order(World.BUSY, "sheet 0 0 5", null, "UNKNOWN 0:4", "OUTSIDE 1:3", "OUTSIDE 2:61", "SIZE 2:-1");
        order(World.BUSY, "lose 0", null, "UNKNOWN 0:4");
        order(World.BUSY, "put 2 0 1", null, "UNKNOWN 0:4", "NULL 0:3", "INDEX 1:6");
        order(World.BUSY, "cell 2 0 2", null, "UNKNOWN 0:4", "OUTSIDE 2:3", "NULL 0:3", "CAST 2:0", "INDEX 1:6");
    }

    /** Promise 28. */
    private static void copies() {
        order(World.BUSY, "copy 2 0 2 0 1", null, "UNKNOWN 0:4", "UNKNOWN 2:4", "NULL 0:3", "NULL 2:3", "CAST 0:1",
            "INDEX 1:-1", "INDEX 3:-1", "INDEX 4:-1", "INDEX 1:6", "INDEX 3:6", "INDEX 4:7");
        order(World.BUSY, "copy 2 0 2 0 1", null, "UNKNOWN 0:-1", "CAST 2:0", "INDEX 4:7");
    }

    /** Promise 31. */
    private static void kinds() {
        order(World.BUSY, "as 0 1", Due.CAST, "UNKNOWN 0:3", "OUTSIDE 1:3", "CAST 1:2");
        order(World.BUSY, "as 1 2", Due.CAST, "UNKNOWN 0:-1", "OUTSIDE 1:-1");
    }

    /** Without a room there is no desk and no ask, and STATE stands ahead of OUTSIDE but in come. */
    private static void withoutRoom() {
        order(World.BARE, "come 1", Due.STATE, "OUTSIDE 0:25", "OUTSIDE 0:0");
        for (String call : new String[] {"anew", "ask 0", "ask 8", "drop", "fewest 1", "fewest 9"}) {
            R.due(World.BARE, call, Due.STATE);
        }
        String[] unknown = {
            "ofDesk 0 6", "lies 0 5", "line 0", "build 0 6", "tale 0 3 0 21 0 5", "misses 0 9", "odd 0", "need 0 25",
            "latest 9 0", "depth 0", "work 0 25", "reading 0 0 2", "sizes 0", "kinds 0", "odds 0 4 2", "tell 0",
            "tally 0", "as 0 3"
        };
        for (String call : unknown) {
            R.due(World.BARE, call, Due.UNKNOWN);
        }
        R.due(World.BARE, "back 1", Due.OUTSIDE);
        R.due(World.BARE, "many 5", Due.OUTSIDE);
    }

    /** All that is wrong is told in its order; base is due if nothing of it is, and null if the call is taken then. */
    private static void order(World world, String call, Due base, String... all) {
        for (int chosen = base == null ? 1 : 0; chosen < 1 << all.length; chosen++) {
            List<Wrong> some = new ArrayList<>();
            for (int w = 0; w < all.length; w++) {
                if ((chosen >> w & 1) == 1) {
                    some.add(new Wrong(all[w]));
                }
            }
            if (some.stream().map(w -> w.place).distinct().count() == some.size()) {
                int[] numbers = Calls.numbers(call);
                some.forEach(w -> numbers[w.place] = w.number);
                R.due(world, Calls.told(Calls.name(call), numbers), some.isEmpty() ? base : some.get(0).due);
            }
        }
    }
}
