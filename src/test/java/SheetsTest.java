/** Promises 24 to 33: sheets, parts. */
public final class SheetsTest {
    private static final Check C = new Check("SheetsTest");
    private static final int UNKNOWN = PageDesks.UNKNOWN, OUTSIDE = PageDesks.OUTSIDE;
    private static final long LOST = PageDesks.LOST;

    public static void main(String[] args) {
        sheet();
        lose();
        put();
        cell();
        copy();
        copyRefusals();
        tell();
        tally();
        as();
        faultOfOthersStays();
        C.end();
    }

    private static void sheet() {
        PageDesks x = new PageDesks();
        C.due("60 bytes", x.sheet(0, 0, 60), 1);
        C.due("the first", x.put(0, 0, 5), 1);
        C.due("the last", x.put(0, 59, 5), 1);
        C.due("no shorts", x.sheet(0, 1, 0), 1);
        C.due("there is none", x.put(0, 0, 5), -13);
        C.due("60 ints", x.sheet(0, 2, 60), 1);
        for (int i = 0; i < 60; i++) {
            C.due("0 at first " + i, x.cell(0, i, 2), 0);
        }
        C.due("61", x.sheet(0, 2, 61), OUTSIDE);
        C.due("it stays", x.cell(0, 59, 2), 0);
        C.due("below 0", x.sheet(0, 0, -1), -14);
        C.due("SIZE", x.fault(), 4);
        C.due("it stays still", x.cell(0, 59, 2), 0);
        C.due("lane below, ahead of SIZE", x.sheet(0, -1, -1), OUTSIDE);
        C.due("no fault", x.fault(), 0);
        C.due("lane above", x.sheet(0, 3, 1), OUTSIDE);
        C.due("sheet below", x.sheet(-1, 0, 1), UNKNOWN);
        C.due("sheet above, ahead of all", x.sheet(4, 3, -1), UNKNOWN);
        x.sheet(0, 0, -1);
        x.sheet(4, 0, 1);
        C.due("no fault behind UNKNOWN", x.fault(), 0);
        x.sheet(0, 0, -1);
        x.sheet(0, 0, 61);
        C.due("no fault behind OUTSIDE", x.fault(), 0);
        x.sheet(0, 0, -1);
        x.sheet(1, 0, 1);
        C.due("no fault behind a row", x.fault(), 0);
        C.due("the last sheet", x.sheet(3, 0, 1), 1);
    }

    private static void lose() {
        PageDesks x = new PageDesks();
        C.due("it had nothing", x.lose(3), 0);
        x.sheet(3, 0, 0);
        C.due("it had a row of none", x.lose(3), 1);
        C.due("it had nothing again", x.lose(3), 0);
        C.due("nothing is there", x.put(3, 0, 1), -11);
        C.due("sheet below", x.lose(-1), UNKNOWN);
        C.due("sheet above", x.lose(4), UNKNOWN);
        Rooms.fill(x, 2, 0, 1, 2);
        x.lose(2);
        x.sheet(2, 0, 2);
        C.due("a new row has 0", x.cell(2, 1, 0), 0);
    }

    private static void put() {
        PageDesks x = new PageDesks();
        C.due("nothing is there, ahead of INDEX", x.put(0, -1, 1), -11);
        C.due("NULL", x.fault(), 1);
        for (int lane = 0; lane < 3; lane++) {
            x.sheet(lane, lane, 3);
            C.due("put", x.put(lane, 0, 70001), 1);
            C.due("put", x.put(lane, 1, -129), 1);
            C.due("put", x.put(lane, 2, 0x12348000), 1);
        }
        C.dueRow("bytes", Rooms.each(0, 2, i -> x.cell(0, i, 0)), 113, 127, 0);
        C.dueRow("shorts", Rooms.each(0, 2, i -> x.cell(1, i, 1)), 4465, -129, -32768);
        C.dueRow("ints", Rooms.each(0, 2, i -> x.cell(2, i, 2)), 70001, -129, 0x12348000);
        C.due("i below", x.put(0, -1, 1), -13);
        C.due("INDEX", x.fault(), 3);
        C.due("i above", x.put(0, 3, 1), -13);
        C.due("i far above", x.put(0, Integer.MAX_VALUE, 1), -13);
        C.due("sheet below", x.put(-1, 0, 1), UNKNOWN);
        C.due("no fault", x.fault(), 0);
        C.due("sheet above", x.put(4, -1, 1), UNKNOWN);
        x.put(0, 3, 1);
        x.put(0, 2, 1);
        C.due("no fault behind a put", x.fault(), 0);
    }

    private static void cell() {
        PageDesks x = new PageDesks();
        Rooms.fill(x, 0, 1, 5, 6);
        C.due("the first", x.cell(0, 0, 1), 5);
        C.due("the last", x.cell(0, 1, 1), 6);
        C.due("beyond", x.cell(0, 2, 1), LOST);
        C.due("INDEX", x.fault(), 3);
        C.due("below", x.cell(0, -1, 1), LOST);
        C.due("INDEX below", x.fault(), 3);
        C.due("CAST ahead of INDEX", x.cell(0, -1, 0), LOST);
        C.due("CAST", x.fault(), 2);
        C.due("nothing is no CAST", x.cell(1, -1, 0), LOST);
        C.due("NULL", x.fault(), 1);
        C.due("lane above", x.cell(1, 0, 3), LOST);
        C.due("no fault behind OUTSIDE", x.fault(), 0);
        x.cell(1, 0, 0);
        C.due("lane below", x.cell(0, 0, -1), LOST);
        C.due("no fault behind OUTSIDE below", x.fault(), 0);
        x.cell(1, 0, 0);
        C.due("sheet above", x.cell(4, 0, 0), LOST);
        C.due("no fault behind UNKNOWN", x.fault(), 0);
        C.due("sheet below", x.cell(-1, 0, 0), LOST);
        x.cell(1, 0, 0);
        x.cell(0, 0, 1);
        C.due("no fault behind a cell", x.fault(), 0);
    }

    private static void copy() {
        PageDesks x = new PageDesks();
        Rooms.fill(x, 0, 2, 1, 2, 3, 4, 5);
        C.due("forward over itself", x.copy(0, 0, 0, 1, 4), 4);
        C.dueRow("as they were", Rooms.each(0, 4, i -> x.cell(0, i, 2)), 1, 1, 2, 3, 4);
        C.due("back over itself", x.copy(0, 2, 0, 0, 3), 3);
        C.dueRow("as they were, back", Rooms.each(0, 4, i -> x.cell(0, i, 2)), 2, 3, 4, 3, 4);
        Rooms.fill(x, 1, 2, 9, 9, 9);
        C.due("to another", x.copy(0, 1, 1, 1, 2), 2);
        C.dueRow("the other", Rooms.each(0, 2, i -> x.cell(1, i, 2)), 9, 3, 4);
        C.dueRow("the first stays", Rooms.each(0, 4, i -> x.cell(0, i, 2)), 2, 3, 4, 3, 4);
        C.due("none", x.copy(0, 5, 1, 3, 0), 0);
        x.copy(0, 0, 1, 0, -1);
        C.due("all", x.copy(1, 0, 0, 2, 3), 3);
        C.due("no fault", x.fault(), 0);
    }

    private static void copyRefusals() {
        PageDesks x = new PageDesks();
        Rooms.fill(x, 0, 2, 1, 2, 3);
        Rooms.fill(x, 1, 2, 7, 8);
        Rooms.fill(x, 2, 1, 1, 2, 3);
        C.due("sheet below", x.copy(-1, 0, 0, 0, 1), UNKNOWN);
        C.due("sheet above", x.copy(4, 0, 3, 0, 1), UNKNOWN);
        C.due("other below", x.copy(3, 0, -1, 0, 1), UNKNOWN);
        C.due("other above", x.copy(0, 0, 4, 0, 1), UNKNOWN);
        C.due("nothing to copy, ahead of INDEX", x.copy(3, 0, 0, 0, -1), -11);
        C.due("NULL", x.fault(), 1);
        C.due("nothing to copy to", x.copy(0, 0, 3, 0, -1), -11);
        C.due("unlike lanes, ahead of INDEX", x.copy(0, 0, 2, 0, -1), -12);
        C.due("CAST", x.fault(), 2);
        C.due("unlike lanes, none", x.copy(2, 0, 0, 0, 0), -12);
        int[][] bad = {
            {-1, 0, 1}, {0, -1, 1}, {0, 0, -1}, {0, 0, 3}, {2, 0, 2}, {0, 1, 2}, {4, 0, 0}, {0, 3, 0}, {-1, 0, 0},
            {0, -1, 0}, {Integer.MAX_VALUE, 0, 1}, {0, Integer.MAX_VALUE, 1}, {1, 1, Integer.MAX_VALUE},
            {Integer.MIN_VALUE, 0, Integer.MIN_VALUE}
        };
        for (int[] b : bad) {
            C.due("INDEX of " + b[0] + " " + b[1] + " " + b[2], x.copy(0, b[0], 1, b[1], b[2]), -13);
            C.due("its fault", x.fault(), 3);
        }
        C.dueRow("nothing is changed", Rooms.each(0, 1, i -> x.cell(1, i, 2)), 7, 8);
        x.copy(3, 0, 0, 0, 0);
        x.copy(4, 0, 0, 0, 0);
        C.due("no fault behind UNKNOWN", x.fault(), 0);
    }

    private static void tell() {
        PageDesks x = Rooms.of("d;q3;c2;r4,ab");
        C.due("queue", x.tell(0), 3);
        C.due("1", x.trace(), 1);
        C.due("chance", x.tell(1), 102);
        C.due("2 1", x.trace(), (31 + 2) * 31 + 1);
        int trace = x.trace();
        C.due("recent", x.tell(2), 108);
        for (int body : new int[] {3, 2, 1, 1}) {
            trace = 31 * trace + body;
        }
        C.due("3 2 1 1", x.trace(), trace);
        C.due("desk below", x.tell(-1), UNKNOWN);
        C.due("desk above", x.tell(3), UNKNOWN);
        C.due("they leave nothing", x.trace(), trace);
        x.build(2, 1);
        C.due("by the frames it has", x.tell(2), 102);
        for (int n = 0; n < 20; n++) {
            x.tell(0);
        }
        for (int body : new int[] {3, 2, 1, 1}) {
            trace = 31 * trace + body;
        }
        for (int n = 0; n < 20; n++) {
            trace = 31 * trace + 1;
        }
        C.due("it wraps", x.trace(), trace);
    }

    private static void tally() {
        PageDesks x = Rooms.of("d;q3;c2;r4,aba");
        C.due("none so far", x.tally(0), 0);
        C.due("4", x.trace(), 4);
        x.come(3);
        C.due("queue", x.tally(0), 2);
        C.due("chance", x.tally(1), 2);
        C.due("4 4 4", x.trace(), (4 * 31 + 4) * 31 + 4);
        C.due("recent", x.tally(2), 60);
        C.due("4 4 4 5", x.trace(), ((4 * 31 + 4) * 31 + 4) * 31 + 5);
        C.due("desk below", x.tally(-1), UNKNOWN);
        C.due("desk above", x.tally(3), UNKNOWN);
        C.due("they leave nothing", x.trace(), ((4 * 31 + 4) * 31 + 4) * 31 + 5);
        x.build(0, 1);
        C.due("by the frames it has", x.tally(0), 3);
    }

    private static void as() {
        PageDesks x = Rooms.of("d;q3;c2;r4,aba");
        C.dueRow("queue", Rooms.each(-1, 3, kind -> x.as(0, kind)), OUTSIDE, 1, -12, -12, OUTSIDE);
        C.dueRow("chance", Rooms.each(-1, 3, kind -> x.as(1, kind)), OUTSIDE, 1, 1, -12, OUTSIDE);
        C.dueRow("recent", Rooms.each(-1, 3, kind -> x.as(2, kind)), OUTSIDE, 1, 1, 1, OUTSIDE);
        C.due("desk below", x.as(-1, 0), UNKNOWN);
        C.due("desk above, ahead of kind", x.as(3, 3), UNKNOWN);
        x.as(0, 1);
        C.due("CAST", x.fault(), 2);
        x.as(0, 0);
        C.due("no fault", x.fault(), 0);
        x.as(0, 1);
        x.as(0, 3);
        C.due("no fault behind OUTSIDE", x.fault(), 0);
        x.as(0, 1);
        x.as(3, 0);
        C.due("no fault behind UNKNOWN", x.fault(), 0);
        C.due("it leaves nothing", x.trace(), 0);
    }

    /** Calls that name no fault leave the fault of the latest one that does. */
    private static void faultOfOthersStays() {
        PageDesks x = Rooms.of("d;q3;c2;r4,aba");
        x.as(0, 2);
        x.ofDesk(0, 0);
        x.lies(0, 0);
        x.line(0);
        x.build(0, 2);
        x.come(1);
        x.anew();
        x.ask(0);
        x.drop();
        x.misses(0, 1);
        x.odd(0);
        x.need(0, 0);
        x.fewest(1);
        x.latest(1, 0);
        x.depth(0);
        x.work(0, 1);
        x.reading(0, 0, 0);
        x.back(0);
        x.sizes(0);
        x.kinds(0);
        x.odds(0, 0, 0);
        x.lose(0);
        x.lose(7);
        x.tell(0);
        x.tally(0);
        x.trace();
        x.many(0);
        x.ofDesk(9, 9);
        C.due("fault()", x.fault(), 2);
        C.due("fault() again", x.fault(), 2);
    }
}
