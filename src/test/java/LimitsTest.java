/** Each number that a call is given: the least and the most that is taken, one less, one more, and far beyond. */
public final class LimitsTest {
    private static final Check C = new Check("LimitsTest");
    private static final Refusals R = new Refusals(C);
    private static final World[] WITH_ROOM = {World.LEAST, World.BUSY, World.FULL};

    public static void main(String[] args) {
        for (World world : World.values()) {
            desks(world);
            asks(world);
            sheets(world);
            always(world);
        }
        for (World world : WITH_ROOM) {
            ofDesks(world);
            ofAsks(world);
            ofTheRoom(world);
            cells(world);
        }
        tales();
        C.end();
    }

    /** Promises 3, 4, 6, 11 to 14, 19, 21 to 23, 29 to 31: there is no such desk. */
    private static void desks(World world) {
        String[] calls = {
            "ofDesk _ 0", "lies _ 0", "build _ 1", "tale 2 2 0 0 _ 0", "misses _ 1", "odd _", "need _ 0", "sizes _",
            "kinds _", "odds _ 0 0", "tell _", "tally _", "as _ 0"
        };
        for (String call : calls) {
            limit(world, call, 0, world.desks - 1, Due.UNKNOWN);
        }
        if (world != World.FULL) {
            limit(world, "reading _ 0 0", 0, world.desks - 1, Due.UNKNOWN);
        }
    }

    /** Promises 5, 16 to 19: there is no such ask. */
    private static void asks(World world) {
        for (String call : new String[] {"line _", "latest 1 _", "depth _", "work _ 1", "reading 0 _ 0"}) {
            limit(world, call, 0, world.asks - 1, Due.UNKNOWN);
        }
    }

    /** Promises 2, 11, 24 to 28: there is no such sheet. */
    private static void sheets(World world) {
        String[] calls = {
            "room _ 0 0 0", "sheet _ 0 1", "lose _", "put _ 0 1", "cell _ 0 0", "copy _ 0 2 0 0", "copy 2 0 _ 0 0"
        };
        for (String call : calls) {
            limit(world, call, 0, 3, Due.UNKNOWN);
        }
        if (world != World.BARE) {
            limit(world, "tale _ 0 0 0 0 0", 0, 3, Due.UNKNOWN);
        }
    }

    /** Promises 2, 7, 20, 24, 27, 34: numbers that are looked at with a room and without. */
    private static void always(World world) {
        limit(world, "room 2 _ 0 0", 0, 2, Due.OUTSIDE);
        limit(world, "come _", 1, 24, Due.OUTSIDE);
        limit(world, "back _", 0, world.readings, Due.OUTSIDE);
        limit(world, "sheet 0 _ 5", 0, 2, Due.OUTSIDE);
        limit(world, "sheet 0 1 _", 0, 60, Due.SIZE, Due.OUTSIDE);
        limit(world, "cell 2 0 _", 0, 2, Due.OUTSIDE);
        limit(world, "many _", 0, 4, Due.OUTSIDE);
    }

    /** Promises 3, 4, 6, 12, 14, 19, 23, 31: another number of a desk. */
    private static void ofDesks(World world) {
        limit(world, "ofDesk 0 _", 0, 5, Due.OUTSIDE);
        limit(world, "lies 0 _", 0, 4, Due.OUTSIDE);
        limit(world, "build 0 _", 1, 5, Due.OUTSIDE);
        limit(world, "misses 0 _", 1, 8, Due.OUTSIDE);
        limit(world, "need 0 _", 0, 24, Due.OUTSIDE);
        limit(world, "reading 0 0 _", 0, 1, Due.OUTSIDE);
        limit(world, "odds 0 _ 0", 0, 3, Due.OUTSIDE);
        limit(world, "odds 0 0 _", 0, 1, Due.OUTSIDE);
        limit(world, "as 0 _", 0, 2, Due.OUTSIDE);
    }

    /** Promises 16, 18: another number of an ask. */
    private static void ofAsks(World world) {
        limit(world, "latest _ 0", 1, 8, Due.OUTSIDE);
        limit(world, "work 0 _", 1, 24, Due.OUTSIDE);
    }

    /** Promises 7, 9, 15: numbers that are looked at with a room alone. */
    private static void ofTheRoom(World world) {
        limit(world, "ask _", 0, 7, Due.OUTSIDE);
        limit(world, "fewest _", 1, 8, Due.OUTSIDE);
        for (int n = 1; n <= 24; n++) {
            if (n <= world.asks - world.came) {
                R.within(world, "come " + n, Due.STATE);
            } else {
                R.due(world, "come " + n, Due.STATE);
            }
        }
    }

    /** Promises 2, 26 to 28: cells of sheet 2 that are there, and cells from a place on. */
    private static void cells(World world) {
        int many = world.cells;
        limit(world, "room 2 2 _ 0", 0, many, Due.INDEX);
        limit(world, "room 2 2 0 _", 0, many, Due.SIZE, Due.INDEX);
        limit(world, "room 2 2 " + many + " _", 0, 0, Due.SIZE, Due.INDEX);
        limit(world, "put 2 _ 1", 0, many - 1, Due.INDEX);
        limit(world, "cell 2 _ 2", 0, many - 1, Due.INDEX);
        limit(world, "copy 2 _ 2 0 0", 0, many, Due.INDEX);
        limit(world, "copy 2 0 2 _ 0", 0, many, Due.INDEX);
        limit(world, "copy 2 0 2 0 _", 0, many, Due.INDEX);
        limit(world, "copy 2 " + many + " 2 0 _", 0, 0, Due.INDEX);
        limit(world, "copy 2 0 2 " + many + " _", 0, 0, Due.INDEX);
        if (many > 0) {
            limit(world, "room 2 2 _ " + many, 0, 0, Due.INDEX);
            limit(world, "room 2 2 1 _", 0, many - 1, Due.SIZE, Due.INDEX);
            limit(world, "copy 2 _ 2 0 " + many, 0, 0, Due.INDEX);
            limit(world, "copy 2 0 2 _ " + many, 0, 0, Due.INDEX);
            limit(world, "copy 2 1 2 0 _", 0, many - 1, Due.INDEX);
            limit(world, "copy 2 0 2 1 _", 0, many - 1, Due.INDEX);
        }
    }

    /** Promise 11: the numbers of a tale. */
    private static void tales() {
        for (World world : WITH_ROOM) {
            limit(world, "tale 2 _ 0 0 0 0", 0, 2, Due.OUTSIDE);
            limit(world, "tale 2 2 0 0 0 _", 0, 4, Due.OUTSIDE);
            limit(world, "tale 2 2 0 _ 0 0", 0, 20, Due.OUTSIDE);
            limit(world, "tale 2 2 _ 0 0 0", 0, world.cells, Due.INDEX);
        }
        limit(World.FULL, "tale 2 2 _ 20 0 0", 0, 40, Due.INDEX);
        R.due(World.BUSY, "tale 2 2 0 7 0 0", Due.INDEX);
        R.due(World.BUSY, "tale 2 2 6 1 0 0", Due.INDEX);
        R.due(World.LEAST, "tale 2 2 0 1 0 0", Due.INDEX);
    }

    private static void limit(World world, String call, int least, int most, Due due) {
        limit(world, call, least, most, due, due);
    }

    /** A call is told with _ in place of the number. */
    private static void limit(World world, String call, int least, int most, Due below, Due above) {
        for (int number : new int[] {least - 1, least - 2, -129, Integer.MIN_VALUE + 1, Integer.MIN_VALUE}) {
            R.due(world, call.replace("_", "" + number), below);
        }
        for (int number : new int[] {most + 1, most + 2, 300, Integer.MAX_VALUE - 1, Integer.MAX_VALUE}) {
            R.due(world, call.replace("_", "" + number), above);
        }
        for (int number = least; number <= most; number++) {
            R.within(world, call.replace("_", "" + number), below);
            if (below != above) {
                R.within(world, call.replace("_", "" + number), above);
            }
        }
    }
}
