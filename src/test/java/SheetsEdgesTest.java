import java.math.BigInteger;

/** Promises 24 to 33: rows of no cells and of sixty, numbers that are cut, an int that wraps, which fault is told. */
public final class SheetsEdgesTest {
    private static final Check C = new Check("SheetsEdgesTest");
    private static final int UNKNOWN = PageDesks.UNKNOWN, OUTSIDE = PageDesks.OUTSIDE;
    private static final int MIN = Integer.MIN_VALUE, MAX = Integer.MAX_VALUE;
    private static final long LOST = PageDesks.LOST;

    public static void main(String[] args) {
        rowOfNoCells();
        rowOfSixty();
        rowTooLong();
        rowBelowNothing();
        newRowIsZero();
        allFourSheets();
        loseTwice();
        cutToBytes();
        cutToShorts();
        intsAreNotCut();
        firstAndLastCell();
        cellOfEachLane();
        nothingIsNoCast();
        copyNone();
        copyAll();
        copyOverItself();
        copyBeyond();
        copyOfNothing();
        copyOfUnlikeLanes();
        traceAtFirst();
        traceOfEachBody();
        traceWraps();
        refusedLeavesNoTrace();
        tellLeastAndMost();
        tallyLeastAndMost();
        asEachKind();
        faultOfEachCall();
        faultBehindARefusal();
        faultBehindACallThatNamesNone();
        lastOfAllCalls();
        C.end();
    }

    private static void rowOfNoCells() {
        PageDesks x = new PageDesks();
        for (int lane = 0; lane < 3; lane++) {
            C.due("a row", x.sheet(0, lane, 0), 1);
            C.due("has no cell to put", x.put(0, 0, 1), -13);
            C.due("has no cell", x.cell(0, 0, lane), LOST);
            C.due("INDEX, not NULL", x.fault(), 3);
            C.due("none of them can be copied", x.copy(0, 0, 0, 0, 0), 0);
            C.due("one can't", x.copy(0, 0, 0, 0, 1), -13);
            C.due("it is a text of no codes", x.room(0, lane, 0, 0), -100);
        }
        C.due("a row of no cells is not nothing", x.lose(0), 1);
    }

    private static void rowOfSixty() {
        PageDesks x = new PageDesks();
        for (int lane = 0; lane < 3; lane++) {
            C.due("a row", x.sheet(lane, lane, 60), 1);
            C.due("its last cell", x.put(lane, 59, 9), 1);
            C.due("is there", x.cell(lane, 59, lane), 9);
            C.due("no 61st to put", x.put(lane, 60, 9), -13);
            C.due("no 61st", x.cell(lane, 60, lane), LOST);
        }
    }

    private static void rowTooLong() {
        PageDesks x = new PageDesks();
        C.due("61 of nothing", x.sheet(0, 0, 61), OUTSIDE);
        C.due("it has nothing still", x.lose(0), 0);
        x.sheet(0, 0, 60);
        x.put(0, 59, 1);
        C.due("61", x.sheet(0, 1, 61), OUTSIDE);
        C.due("far too many", x.sheet(0, 1, MAX), OUTSIDE);
        C.due("the row stays", x.cell(0, 59, 0), 1);
    }

    private static void rowBelowNothing() {
        PageDesks x = new PageDesks();
        C.due("-1 of nothing", x.sheet(0, 0, -1), -14);
        C.due("SIZE", x.fault(), 4);
        C.due("it has nothing still", x.lose(0), 0);
        x.sheet(0, 0, 1);
        C.due("far below", x.sheet(0, 1, MIN), -14);
        C.due("the row stays", x.cell(0, 0, 0), 0);
    }

    private static void newRowIsZero() {
        PageDesks x = new PageDesks();
        Rooms.fill(x, 0, 2, 1, 2, 3);
        x.sheet(0, 2, 3);
        C.dueRow("of as many cells", Rooms.each(0, 2, i -> x.cell(0, i, 2)), 0, 0, 0);
        x.put(0, 2, 9);
        x.sheet(0, 2, 1);
        x.sheet(0, 2, 3);
        C.due("behind a shorter one", x.cell(0, 2, 2), 0);
        x.put(0, 0, 9);
        x.lose(0);
        x.sheet(0, 1, 1);
        C.due("behind nothing", x.cell(0, 0, 1), 0);
        C.due("its lane is the new one", x.cell(0, 0, 2), LOST);
    }

    private static void allFourSheets() {
        PageDesks x = new PageDesks();
        C.dueRow("sheets", Rooms.each(-1, 4, k -> x.sheet(k, 2, 1)), UNKNOWN, 1, 1, 1, 1, UNKNOWN);
        C.dueRow("put", Rooms.each(-1, 4, k -> x.put(k, 0, k)), UNKNOWN, 1, 1, 1, 1, UNKNOWN);
        C.dueRow("each has its own", Rooms.each(-1, 4, k -> x.cell(k, 0, 2)), LOST, 0, 1, 2, 3, LOST);
        C.dueRow("lose", Rooms.each(-1, 4, x::lose), UNKNOWN, 1, 1, 1, 1, UNKNOWN);
        C.dueRow("nothing to lose", Rooms.each(0, 3, x::lose), 0, 0, 0, 0);
    }

    private static void loseTwice() {
        PageDesks x = new PageDesks();
        x.sheet(3, 2, 60);
        C.due("a row", x.lose(3), 1);
        C.due("nothing", x.lose(3), 0);
        C.due("nothing to put", x.put(3, 0, 1), -11);
        C.due("NULL", x.fault(), 1);
        C.due("nothing is lost without a fault", x.lose(3), 0);
        C.due("and names none", x.fault(), 1);
    }

    private static void cutToBytes() {
        int[] put = {127, 128, 255, 256, -128, -129, -256, 65535, MAX, MIN};
        cut(0, put, 127, -128, -1, 0, -128, 127, 0, -1, -1, 0);
    }

    private static void cutToShorts() {
        int[] put = {32767, 32768, 65535, 65536, -32768, -32769, -65536, MAX, MIN, 128};
        cut(1, put, 32767, -32768, -1, 0, -32768, 32767, 0, -1, 0, 128);
    }

    private static void intsAreNotCut() {
        cut(2, new int[] {MAX, MIN, 65536, -65537, 0, -1}, MAX, MIN, 65536, -65537, 0, -1);
    }

    private static void cut(int lane, int[] put, long... due) {
        PageDesks x = new PageDesks();
        Rooms.fill(x, 1, lane, put);
        C.dueRow("lane " + lane, Rooms.each(0, put.length - 1, i -> x.cell(1, i, lane)), due);
    }

    private static void firstAndLastCell() {
        PageDesks x = new PageDesks();
        x.sheet(0, 2, 3);
        C.dueRow("put", Rooms.each(-1, 3, i -> x.put(0, i, 5 + i)), -13, 1, 1, 1, -13);
        C.dueRow("cells", Rooms.each(-1, 3, i -> x.cell(0, i, 2)), LOST, 5, 6, 7, LOST);
        C.due("far below", x.put(0, MIN, 1), -13);
        C.due("far above", x.put(0, MAX, 1), -13);
        C.due("a cell far below", x.cell(0, MIN, 2), LOST);
        C.due("INDEX", x.fault(), 3);
        C.due("a cell far above", x.cell(0, MAX, 2), LOST);
        C.due("INDEX again", x.fault(), 3);
    }

    private static void cellOfEachLane() {
        for (int has = 0; has < 3; has++) {
            PageDesks x = new PageDesks();
            Rooms.fill(x, 0, has, 42);
            for (int lane = 0; lane < 3; lane++) {
                C.due("lane " + has + " as " + lane, x.cell(0, 0, lane), lane == has ? 42 : LOST);
                C.due("its fault", x.fault(), lane == has ? 0 : 2);
            }
        }
    }

    private static void nothingIsNoCast() {
        PageDesks x = Rooms.of("d;q1,a");
        for (int lane = 0; lane < 3; lane++) {
            C.due("cell", x.cell(0, 0, lane), LOST);
            C.due("cell's NULL", x.fault(), 1);
            C.due("room", x.room(0, lane, 0, 0), -11);
            C.due("tale", x.tale(0, lane, 0, 0, 0, 0), -11);
        }
        x.sheet(1, 0, 1);
        C.due("copied to a row", x.copy(0, 0, 1, 0, 0), -11);
        C.due("a row copied to it", x.copy(1, 0, 0, 0, 0), -11);
    }

    private static void copyNone() {
        PageDesks x = new PageDesks();
        Rooms.fill(x, 0, 2, 1, 2, 3);
        Rooms.fill(x, 1, 2, 9);
        C.due("from the first", x.copy(0, 0, 1, 0, 0), 0);
        C.due("from the end to the end", x.copy(0, 3, 1, 1, 0), 0);
        C.due("no fault", x.fault(), 0);
        C.due("from beyond", x.copy(0, 4, 1, 0, 0), -13);
        C.due("to beyond", x.copy(0, 0, 1, 2, 0), -13);
        C.due("from ahead", x.copy(0, -1, 1, 0, 0), -13);
        C.due("to ahead", x.copy(0, 0, 1, -1, 0), -13);
        C.due("nothing is changed", x.cell(1, 0, 2), 9);
    }

    private static void copyAll() {
        PageDesks x = new PageDesks();
        x.sheet(0, 1, 60);
        x.sheet(1, 1, 60);
        for (int i = 0; i < 60; i++) {
            x.put(0, i, 500 + i);
        }
        C.due("sixty", x.copy(0, 0, 1, 0, 60), 60);
        C.dueRow("all are there", Rooms.each(0, 59, i -> x.cell(1, i, 1) - i), Rooms.each(0, 59, i -> 500));
        C.due("sixty to itself", x.copy(1, 0, 1, 0, 60), 60);
        C.due("61", x.copy(0, 0, 1, 0, 61), -13);
        C.due("sixty from 1 on", x.copy(0, 1, 1, 0, 60), -13);
        C.due("sixty to 1 on", x.copy(0, 0, 1, 1, 60), -13);
        C.due("the last to the first", x.copy(0, 59, 1, 0, 1), 1);
        C.due("is there", x.cell(1, 0, 1), 559);
        C.due("the first to the last", x.copy(0, 0, 1, 59, 1), 1);
        C.due("is there, too", x.cell(1, 59, 1), 500);
    }

    /** As they were: not what has just been written. */
    private static void copyOverItself() {
        PageDesks x = new PageDesks();
        Rooms.fill(x, 0, 0, 1, 2, 3, 4, 5, 6);
        C.due("one on", x.copy(0, 0, 0, 1, 5), 5);
        C.dueRow("one on", Rooms.each(0, 5, i -> x.cell(0, i, 0)), 1, 1, 2, 3, 4, 5);
        C.due("one back", x.copy(0, 1, 0, 0, 5), 5);
        C.dueRow("one back", Rooms.each(0, 5, i -> x.cell(0, i, 0)), 1, 2, 3, 4, 5, 5);
        C.due("half on", x.copy(0, 0, 0, 3, 3), 3);
        C.dueRow("half on", Rooms.each(0, 5, i -> x.cell(0, i, 0)), 1, 2, 3, 1, 2, 3);
        C.due("one on and one beyond", x.copy(0, 0, 0, 1, 6), -13);
    }

    private static void copyBeyond() {
        PageDesks x = new PageDesks();
        Rooms.fill(x, 0, 2, 1, 2, 3);
        Rooms.fill(x, 1, 2, 7, 8);
        int[][] beyond = {
            {0, 0, -1}, {0, 0, MIN}, {0, 0, MAX}, {3, 0, 1}, {0, 2, 1}, {1, 0, 3}, {0, 0, 3}, {MAX, 0, 1}, {0, MAX, 1},
            {MIN, 0, 1}, {0, MIN, 1}, {MAX, MAX, MAX}, {MIN, MIN, MIN}, {3, 2, MAX}, {1, 1, MAX}, {MAX, 0, 0},
            {0, MAX, 0}
        };
        for (int[] b : beyond) {
            C.due("copy " + b[0] + " " + b[1] + " " + b[2], x.copy(0, b[0], 1, b[1], b[2]), -13);
            C.due("INDEX", x.fault(), 3);
        }
        C.dueRow("nothing is changed", Rooms.each(0, 1, i -> x.cell(1, i, 2)), 7, 8);
    }

    /** NULL of the first, of the other, of both, ahead of all other faults. */
    private static void copyOfNothing() {
        PageDesks x = new PageDesks();
        x.sheet(0, 0, 2);
        C.due("the first", x.copy(1, -1, 0, 0, -1), -11);
        C.due("the other", x.copy(0, -1, 1, 0, -1), -11);
        C.due("both", x.copy(1, 0, 2, 0, 0), -11);
        C.due("the same", x.copy(3, 0, 3, 0, 0), -11);
        C.due("NULL", x.fault(), 1);
        C.due("no sheet ahead of nothing", x.copy(1, 0, 4, 0, 0), UNKNOWN);
        C.due("no sheet ahead of nothing, the other", x.copy(-1, 0, 1, 0, 0), UNKNOWN);
    }

    private static void copyOfUnlikeLanes() {
        PageDesks x = new PageDesks();
        for (int lane = 0; lane < 3; lane++) {
            x.sheet(lane, lane, 1);
        }
        for (int from = 0; from < 3; from++) {
            for (int to = 0; to < 3; to++) {
                C.due("lane " + from + " to " + to, x.copy(from, 0, to, 0, 1), from == to ? 1 : -12);
                C.due("none of lane " + from + " to " + to, x.copy(from, 0, to, 0, 0), from == to ? 0 : -12);
                C.due("beyond, lane " + from + " to " + to, x.copy(from, 2, to, 0, 1), from == to ? -13 : -12);
            }
        }
    }

    private static void traceAtFirst() {
        PageDesks x = new PageDesks();
        C.due("0", x.trace(), 0);
        C.due("looking leaves nothing", x.trace(), 0);
        C.due("a room leaves nothing", Rooms.of("d;q1,a").trace(), 0);
    }

    private static void traceOfEachBody() {
        C.due("tell of a queue", traceOf("d;q1,a", "tell 0"), 1);
        C.due("tell of a chance", traceOf("d;c1,a", "tell 0"), 2 * 31 + 1);
        C.due("tell of a recent", traceOf("d;r1,a", "tell 0"), ((3 * 31 + 2) * 31 + 1) * 31 + 1);
        C.due("tally of a queue", traceOf("d;q1,a", "tally 0"), 4);
        C.due("tally of a chance", traceOf("d;c1,a", "tally 0"), 4);
        C.due("tally of a recent", traceOf("d;r1,a", "tally 0"), 5);
    }

    private static int traceOf(String text, String call) {
        PageDesks x = Rooms.of(text);
        Calls.of(x, call);
        return x.trace();
    }

    /** Past the greatest int it goes on from the least, again and again. */
    private static void traceWraps() {
        PageDesks x = Rooms.of("d;q1;r1,a");
        BigInteger whole = BigInteger.ZERO;
        boolean wasBelow = false;
        boolean wasAbove = false;
        for (int n = 0; n < 100; n++) {
            boolean tells = n % 3 == 0;
            Calls.of(x, tells ? "tell 1" : n % 3 == 1 ? "tally 1" : "tally 0");
            for (int body : tells ? new int[] {3, 2, 1, 1} : new int[] {n % 3 == 1 ? 5 : 4}) {
                whole = whole.multiply(BigInteger.valueOf(31)).add(BigInteger.valueOf(body));
            }
            int trace = x.trace();
            C.due("trace behind " + n, trace, whole.intValue());
            wasAbove |= wasBelow && trace > 0;
            wasBelow |= trace < 0;
        }
        C.due("it went below 0 and above again", wasAbove ? 1 : 0, 1);
    }

    private static void refusedLeavesNoTrace() {
        PageDesks x = Rooms.of("d;q1;c1;r1,a");
        x.tell(1);
        int trace = x.trace();
        for (int k : new int[] {-1, 3, MIN, MAX}) {
            C.due("tell " + k, x.tell(k), UNKNOWN);
            C.due("tally " + k, x.tally(k), UNKNOWN);
        }
        C.due("trace", x.trace(), trace);
        C.due("tell without a room", new PageDesks().tell(0), UNKNOWN);
        C.due("tally without a room", new PageDesks().tally(0), UNKNOWN);
    }

    private static void tellLeastAndMost() {
        PageDesks x = Rooms.of("d;q1;c1;r1,a");
        C.dueRow("one frame", Rooms.each(0, 2, x::tell), 1, 101, 102);
        for (int k = 0; k < 3; k++) {
            x.build(k, 5);
        }
        C.dueRow("five frames", Rooms.each(0, 2, x::tell), 5, 105, 110);
    }

    private static void tallyLeastAndMost() {
        PageDesks x = Rooms.of("d;q1;c5;r1,abcdefghabcdefghabcdefgh");
        C.dueRow("none has come", Rooms.each(0, 2, x::tally), 0, 0, 60);
        x.come(24);
        C.dueRow("24 misses", Rooms.each(0, 2, x::tally), 24, 24, 60);
        x.anew();
        C.dueRow("anew", Rooms.each(0, 2, x::tally), 0, 0, 60);
    }

    private static void asEachKind() {
        PageDesks x = Rooms.of("d;q1;c1;r1,a");
        long[][] due = {{OUTSIDE, 1, -12, -12, OUTSIDE}, {OUTSIDE, 1, 1, -12, OUTSIDE}, {OUTSIDE, 1, 1, 1, OUTSIDE}};
        int[][] faults = {{0, 0, 2, 2, 0}, {0, 0, 0, 2, 0}, {0, 0, 0, 0, 0}};
        for (int k = 0; k < 3; k++) {
            for (int kind = -1; kind <= 3; kind++) {
                C.due("desk " + k + " as " + kind, x.as(k, kind), due[k][kind + 1]);
                C.due("its fault", x.fault(), faults[k][kind + 1]);
            }
        }
    }

    /** Each fault that each call names, told by fault() until a call that names one comes to none. */
    private static void faultOfEachCall() {
        String[][] byFault = {
            {},
            {"room 3 0 0 1", "tale 3 0 0 1 0 0", "put 3 0 1", "cell 3 0 0", "copy 3 0 0 0 1", "copy 0 0 3 0 1"},
            {"room 0 1 0 1", "tale 0 1 0 1 0 0", "cell 0 0 1", "copy 0 0 1 0 1", "as 0 1"},
            {"room 0 0 0 6", "tale 0 0 4 2 0 0", "put 0 5 1", "cell 0 5 0", "copy 0 0 0 0 6"},
            {"room 0 0 0 -1", "sheet 0 0 -1"}
        };
        String[] comeToNone = {
            "room 0 0 0 5", "tale 0 0 2 1 0 0", "sheet 3 0 1", "put 0 0 1", "cell 0 0 0", "copy 0 0 0 0 1", "as 0 0"
        };
        for (int fault = 1; fault <= 4; fault++) {
            for (String call : byFault[fault]) {
                for (String next : comeToNone) {
                    PageDesks x = World.BUSY.make();
                    Calls.of(x, call);
                    C.due(call + ", fault()", x.fault(), fault);
                    C.due(call + ", fault() again", x.fault(), fault);
                    Calls.of(x, next);
                    C.due(call + ", then " + next + ", fault()", x.fault(), 0);
                }
            }
        }
    }

    /** A refused call that names faults came to none. */
    private static void faultBehindARefusal() {
        String[] refused = {
            "room 4 0 0 1", "room 0 3 0 1", "tale 4 0 0 1 0 0", "tale 0 0 0 1 3 0", "tale 0 3 0 1 0 0",
            "tale 0 0 0 21 0 0", "tale 0 0 0 1 0 5", "tale 0 0 0 1 0 0", "sheet 4 0 1", "sheet 0 3 1", "sheet 0 0 61",
            "put 4 0 1", "cell 4 0 0", "cell 0 0 3", "copy 4 0 0 0 1", "copy 0 0 4 0 1", "as 3 0", "as 0 3"
        };
        for (String call : refused) {
            PageDesks x = World.BUSY.make();
            Calls.of(x, "as 0 1");
            C.due("a fault", x.fault(), 2);
            C.due(call + " is refused", Calls.of(x, call) < 0 ? 1 : 0, 1);
            C.due(call + ", fault()", x.fault(), 0);
        }
    }

    /** Calls that name no fault leave the one of the latest that does, whether they are taken or refused. */
    private static void faultBehindACallThatNamesNone() {
        String[] calls = {
            "ofDesk 0 0", "ofDesk 3 0", "lies 0 0", "lies 0 5", "line 0", "line 9", "build 0 1", "build 0 6",
            "come 1", "come 25", "come 24", "anew", "ask 0", "ask 8", "drop", "misses 0 1", "misses 0 9", "odd 0",
            "odd 3", "need 0 0", "need 0 25", "fewest 1", "fewest 9", "latest 1 0", "latest 9 0", "depth 0",
            "depth 9", "work 0 1", "work 0 25", "reading 0 0 0", "reading 0 0 2", "back 1", "back 9", "sizes 0",
            "sizes 3", "kinds 0", "kinds 3", "odds 0 1 0", "odds 3 1 0", "lose 0", "lose 4", "tell 0", "tell 3",
            "tally 0", "tally 3", "trace", "fault", "many 0", "many 5"
        };
        for (String call : calls) {
            PageDesks x = World.BUSY.make();
            Calls.of(x, "put 0 5 0");
            Calls.of(x, call);
            C.due(call + ", fault()", x.fault(), 3);
        }
    }

    /** The 512th call of an object is answered like the first. */
    private static void lastOfAllCalls() {
        PageDesks x = new PageDesks();
        Rooms.fill(x, 0, 0, 'd', ';', 'c', '2', ',', 'a', 'b', 'a');
        x.room(0, 0, 0, 8);
        int trace = 0;
        for (int call = 11; call < 512; call++) {
            x.tell(0);
            trace = (trace * 31 + 2) * 31 + 1;
        }
        C.due("the 512th", x.trace(), trace);
    }
}
