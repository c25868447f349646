import java.util.Arrays;

/** Each call with all rows of numbers at and about the limits, in each state at the edges, against the model. */
public final class GridTest {
    private static final Check C = new Check("GridTest");
    private static final int MIN = Integer.MIN_VALUE, MAX = Integer.MAX_VALUE;
    /** Calls on one object: with those that make its state and those to fault() no more than 512. */
    private static final int CALLS = 200;
    private static final int[] DESK = {-1, 0, 1, 2, 3, 4}, SHEET = DESK, KIND = {-1, 0, 1, 2, 3}, LANE = KIND;
    private static final int[] WHAT = {-1, 0, 1, 2, 3, 4, 5, 6}, PLACE = WHAT, PAGE = {-1, 0, 7, 8};
    private static final int[] ASK = {MIN, -1, 0, 1, 7, 8, 9, 22, 23, 24, MAX};
    private static final int[] FRAMES = {MIN, -1, 0, 1, 2, 5, 6, 7, 8, 9, MAX};
    private static final int[] UP_TO_24 = {MIN, -1, 0, 1, 2, 4, 5, 23, 24, 25, MAX};
    private static final int[] UP_TO_8 = {MIN, -1, 0, 1, 3, 7, 8, 9, MAX};
    private static final int[] CELL = {MIN, -1, 0, 1, 5, 6, 7, 59, 60, 61, MAX};
    private static final int[] TALE = {MIN, -1, 0, 1, 5, 6, 19, 20, 21, MAX};
    private static final int[] VALUE = {
        MIN, -32769, -32768, -129, -128, 0, 127, 128, 255, 256, 32767, 32768, 65536, MAX
    };
    private static final int[] BIT = {MIN, -1, 0, 1, 2, MAX}, ODDS = {MIN, -1, 0, 1, 2, 3, 4, MAX};

    private final World world;
    private PageDesks x;
    private Model model;
    private int calls;

    private GridTest(World world) {
        this.world = world;
        begin();
    }

    public static void main(String[] args) {
        for (World world : World.values()) {
            new GridTest(world).calls();
        }
        C.end();
    }

    private void begin() {
        x = world.make();
        model = new Model();
        world.make(model);
        calls = 0;
    }

    private void calls() {
        grid("room", SHEET, LANE, CELL, CELL);
        grid("ofDesk", DESK, WHAT);
        grid("lies", DESK, PLACE);
        grid("line", ASK);
        grid("build", DESK, FRAMES);
        grid("come", UP_TO_24);
        grid("anew");
        grid("ask", PAGE);
        grid("drop");
        grid("tale", SHEET, LANE, CELL, TALE, DESK, WHAT);
        grid("misses", DESK, FRAMES);
        grid("odd", DESK);
        grid("need", DESK, UP_TO_24);
        grid("fewest", FRAMES);
        grid("latest", FRAMES, ASK);
        grid("depth", ASK);
        grid("work", ASK, UP_TO_24);
        grid("reading", DESK, ASK, BIT);
        grid("back", UP_TO_8);
        grid("sizes", DESK);
        grid("kinds", DESK);
        grid("odds", DESK, ODDS, BIT);
        grid("sheet", SHEET, LANE, CELL);
        grid("lose", SHEET);
        grid("put", SHEET, CELL, VALUE);
        grid("cell", SHEET, CELL, LANE);
        grid("copy", SHEET, CELL, SHEET, CELL, CELL);
        grid("tell", DESK);
        grid("tally", DESK);
        grid("as", DESK, KIND);
        grid("trace");
        grid("fault");
        grid("many", WHAT);
    }

    private void grid(String name, int[]... edges) {
        begin();
        rows(name, new int[0], edges);
    }

    private void rows(String name, int[] chosen, int[][] edges) {
        if (chosen.length == edges.length) {
            same(name, chosen);
            return;
        }
        for (int number : edges[chosen.length]) {
            int[] more = Arrays.copyOf(chosen, chosen.length + 1);
            more[chosen.length] = number;
            rows(name, more, edges);
        }
    }

    private void same(String name, int[] numbers) {
        if (calls == CALLS) {
            begin();
        }
        calls++;
        String call = world + " " + Calls.told(name, numbers);
        C.due(call, Calls.of(x, name, numbers), Calls.of(model, name, numbers));
        C.due(call + ", fault() then", x.fault(), model.fault());
    }
}
