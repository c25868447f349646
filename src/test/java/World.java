import java.util.ArrayList;
import java.util.List;

/** States at the edges of what an object can be, each made by the same calls every time. */
enum World {
    /** A new object. */
    BARE(0, 0, 0, 0, -1),
    /** As little as there can be in a room: one desk of one frame, one ask, rows of no cells. */
    LEAST(1, 1, 0, 0, 0),
    /** Something everywhere, and room for more. */
    BUSY(3, 9, 5, 3, 6),
    /** As much as there can be: desks, frames, asks that have all come, readings, cells. */
    FULL(4, 24, 24, 8, 60);

    final int desks;
    final int asks;
    final int came;
    final int readings;
    /** How many cells sheet 2 has, of ints; -1: it has nothing. */
    final int cells;

    World(int desks, int asks, int came, int readings, int cells) {
        this.desks = desks;
        this.asks = asks;
        this.came = came;
        this.readings = readings;
        this.cells = cells;
    }

    PageDesks make() {
        PageDesks x = new PageDesks();
        make(x);
        return x;
    }

    /** Sheets 0 .. 2 are of lanes 0 .. 2, and sheet 3 has nothing. */
    void make(Object x) {
        switch (this) {
            case LEAST: least(x); break;
            case BUSY: busy(x); break;
            case FULL: full(x); break;
            default: break;
        }
    }

    private static void least(Object x) {
        take(x, "d;r1,h");
        all(x, "sheet 0 0 0", "sheet 1 1 0", "sheet 2 2 0");
    }

    private static void busy(Object x) {
        take(x, "d;q2;c3;r4,abcabdabh");
        all(x, "come 5", "reading 0 3 0", "reading 1 3 1", "reading 2 8 0", "tell 1");
        all(x, "sheet 0 0 5", "put 0 0 100", "put 0 1 59", "put 0 2 7", "put 0 4 3");
        all(x, "sheet 1 1 4", "put 1 0 300", "put 1 3 5");
        all(x, "sheet 2 2 6", "put 2 0 7", "put 2 1 1", "put 2 2 2", "put 2 3 6", "put 2 5 3");
    }

    private static void full(Object x) {
        take(x, "d;q5;c5;r5;c5,abcdefghabcdefghabcdefgh");
        all(x, "come 24", "tell 2");
        for (int r = 0; r < 8; r++) {
            Calls.of(x, "reading", r % 4, 3 * r, 0);
        }
        all(x, "sheet 0 0 60", "sheet 1 1 60", "sheet 2 2 60", "put 0 59 7", "put 1 59 6", "put 2 59 5");
    }

    private static void take(Object x, String text) {
        Calls.of(x, "sheet", 3, 0, text.length());
        for (int i = 0; i < text.length(); i++) {
            Calls.of(x, "put", 3, i, text.charAt(i));
        }
        if (Calls.of(x, "room", 3, 0, 0, text.length()) < 1) {
            throw new IllegalArgumentException(text);
        }
        Calls.of(x, "lose", 3);
    }

    static void all(Object x, String... calls) {
        for (String call : calls) {
            if (Calls.of(x, call) < 0) {
                throw new IllegalStateException(call);
            }
        }
    }

    /** All that can be seen of an object but fault(), which looking at cells changes; 200 calls. */
    static List<Long> seen(PageDesks x) {
        List<Long> seen = new ArrayList<>();
        look(seen, x, "trace");
        look(seen, x, "many", 5);
        look(seen, x, "line", 25);
        for (int k = 0; k < 4; k++) {
            look(seen, x, "ofDesk " + k, 6);
            look(seen, x, "lies " + k, 5);
            look(seen, x, "sizes " + k);
            look(seen, x, "kinds " + k);
            for (int i : new int[] {0, 1, 2, 3, 4, 5, 6, 59, 60}) {
                look(seen, x, "cell " + k + " " + i, 3);
            }
        }
        return seen;
    }

    private static void look(List<Long> seen, PageDesks x, String told) {
        seen.add(Calls.of(x, told));
    }

    private static void look(List<Long> seen, PageDesks x, String told, int many) {
        for (int last = 0; last < many; last++) {
            look(seen, x, told + " " + last);
        }
    }
}
