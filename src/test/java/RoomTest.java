/** Promises 1 to 6 and 34: the room. */
public final class RoomTest {
    private static final Check C = new Check("RoomTest");
    private static final int UNKNOWN = PageDesks.UNKNOWN, OUTSIDE = PageDesks.OUTSIDE, NONE = PageDesks.NONE;

    public static void main(String[] args) {
        newObject();
        texts();
        textsByPlace();
        roomRefusals();
        roomFaults();
        takenTextMakesAnew();
        refusedTextChangesNothing();
        ofDesk();
        chanceWithAllUsed();
        chanceWithAllUsedAndLess();
        lies();
        line();
        build();
        many();
        C.end();
    }

    private static void newObject() {
        PageDesks x = new PageDesks();
        C.due("new fault()", x.fault(), 0);
        C.due("new trace()", x.trace(), 0);
        C.dueRow("new many", Rooms.each(0, 4, x::many), 0, 0, 0, 0, 0);
        C.due("new ofDesk(0, 0)", x.ofDesk(0, 0), UNKNOWN);
        C.due("new lies(0, 0)", x.lies(0, 0), UNKNOWN);
        C.due("new line(0)", x.line(0), UNKNOWN);
        C.due("new latest(1, 0)", x.latest(1, 0), UNKNOWN);
        C.due("new back(0)", x.back(0), 0);
        for (int k = 0; k < 4; k++) {
            for (int lane = 0; lane < 3; lane++) {
                C.due("new cell", x.cell(k, 0, lane), PageDesks.LOST);
                C.due("new cell's fault", x.fault(), 1);
            }
            C.due("new lose", x.lose(k), 0);
        }
    }

    private static void texts() {
        PageDesks x = new PageDesks();
        C.due("least text", Rooms.take(x, "d;q1,a"), 1);
        C.due("two desks", Rooms.take(x, "d;c5;r3,h"), 2);
        C.due("four desks, 24 asks", Rooms.take(x, "d;q1;c2;r3;q4,abcdefghabcdefghabcdefgh"), 4);
        C.due("its asks", x.many(1), 24);
        C.due("its last ask", x.line(23), 7);
        C.due("25 asks", Rooms.take(x, "d;q1;c2;r3;q4,abcdefghabcdefghabcdefgha"), -138);
        C.due("one desk, 25 asks", Rooms.take(x, "d;q1,aaaaaaaaaaaaaaaaaaaaaaaaa"), -129);
        C.due("five desks", Rooms.take(x, "d;q1;q1;q1;q1;q1,a"), -113);
    }

    private static void textsByPlace() {
        PageDesks x = new PageDesks();
        String[] bad = {
            "", "d", "d;", "d;q", "d;q1", "d;q1,", "d;q1;", "d;q1;c", "d;q1;c2", "d;q1;c2,",
            "x", "D;q1,a", ";q1,a", "dq1,a", "d,a", "d;;", "d;Q1,a", "d;d1,a", "d;1,a", "d;qq,a", "d;q0,a", "d;q6,a",
            "d;q12,a", "d;q1a", "d;q1d", "d;q1,,", "d;q1,1", "d;q1,i", "d;q1,`", "d;q1,A", "d;q1,a;", "d;q1,a,",
            "d;q1,ab;q2", "d;q1,a ", "d;q1;,a", "d;q1;2,a"
        };
        int[] at = {
            0, 1, 2, 3, 4, 5, 5, 6, 7, 8,
            0, 0, 0, 1, 1, 2, 2, 2, 2, 3, 3, 3,
            4, 4, 4, 5, 5, 5, 5, 5, 6, 6,
            7, 6, 5, 5
        };
        C.due("as many faults as texts", bad.length, at.length);
        for (int i = 0; i < bad.length; i++) {
            C.due("room of '" + bad[i] + "'", Rooms.take(x, bad[i]), -100 - at[i]);
            C.due("no machine's fault of '" + bad[i] + "'", x.fault(), 0);
        }
        C.due("no room by any of them", x.many(0), 0);
        Rooms.fill(x, 0, 2, 'd' + 256, ';');
        C.due("a code that is d but for its upper part", x.room(0, 2, 0, 2), -100);
        Rooms.fill(x, 0, 0, 'd' + 256, ';' + 512, 'q', '1', ',', 'a');
        C.due("codes that are cut to bytes", x.room(0, 0, 0, 6), 1);
        Rooms.fill(x, 1, 1, 7, 7, 'd', ';', 'r', '5', ',', 'a', 'b', 7);
        C.due("a text amid others", x.room(1, 1, 2, 7), 1);
        C.due("its asks", x.many(1), 2);
        C.due("places are the text's", x.room(1, 1, 2, 8), -107);
        C.due("an end too soon is the text's", x.room(1, 1, 2, 4), -104);
    }

    private static void roomRefusals() {
        PageDesks x = new PageDesks();
        Rooms.fill(x, 0, 0, 'd', ';', 'q', '1', ',', 'a');
        for (int bad : new int[] {-1, 4, Integer.MIN_VALUE, Integer.MAX_VALUE}) {
            C.due("room of sheet " + bad, x.room(bad, 0, 0, 6), UNKNOWN);
            C.due("ahead of a lane", x.room(bad, 9, -1, -1), UNKNOWN);
        }
        for (int bad : new int[] {-1, 3, Integer.MIN_VALUE, Integer.MAX_VALUE}) {
            C.due("room of lane " + bad, x.room(0, bad, 0, 6), OUTSIDE);
            C.due("ahead of faults", x.room(1, bad, -1, -1), OUTSIDE);
        }
        x.put(0, 99, 0);
        C.due("a fault", x.fault(), 3);
        x.room(4, 0, 0, 6);
        C.due("is none behind UNKNOWN", x.fault(), 0);
        x.put(0, 99, 0);
        x.room(0, 3, 0, 6);
        C.due("is none behind OUTSIDE", x.fault(), 0);
        x.put(0, 99, 0);
        x.room(0, 0, 0, 6);
        C.due("is none behind a room", x.fault(), 0);
    }

    private static void roomFaults() {
        PageDesks x = new PageDesks();
        Rooms.fill(x, 0, 0, 'd', ';', 'q', '1', ',', 'a');
        C.due("CAST ahead of SIZE", x.room(0, 1, 0, -1), -12);
        C.due("CAST's fault", x.fault(), 2);
        C.due("NULL, no CAST", x.room(1, 2, 0, -1), -11);
        C.due("NULL's fault", x.fault(), 1);
        C.due("SIZE ahead of INDEX", x.room(0, 0, -1, -1), -14);
        C.due("SIZE's fault", x.fault(), 4);
        C.due("i below 0", x.room(0, 0, -1, 1), -13);
        C.due("INDEX's fault", x.fault(), 3);
        C.due("i below 0, none taken", x.room(0, 0, -1, 0), -13);
        C.due("i beyond, none taken", x.room(0, 0, 7, 0), -13);
        C.due("i at the end, none taken", x.room(0, 0, 6, 0), -100);
        C.due("no fault then", x.fault(), 0);
        C.due("n beyond", x.room(0, 0, 1, 6), -13);
        C.due("n far beyond", x.room(0, 0, 1, Integer.MAX_VALUE), -13);
        C.due("i far beyond", x.room(0, 0, Integer.MAX_VALUE, 1), -13);
        C.due("INDEX ahead of the text", x.room(0, 0, 1, 9), -13);
        C.due("no room by any", x.many(0), 0);
    }

    private static void takenTextMakesAnew() {
        PageDesks x = Rooms.of("d;q2;r3,abc");
        x.come(2);
        x.reading(1, 0, 0);
        x.build(0, 5);
        x.tell(0);
        C.due("another text", Rooms.take(x, "d;c1,hg"), 1);
        C.dueRow("all is anew", Rooms.each(0, 4, x::many), 1, 2, 0, 2, 0);
        C.dueRow("its desk", Rooms.each(0, 5, w -> x.ofDesk(0, w)), 1, 1, 0, 0, NONE, 0);
        C.due("the second desk is gone", x.ofDesk(1, 0), UNKNOWN);
        C.due("the third ask is gone", x.line(2), UNKNOWN);
        C.due("TRACE stays", x.trace(), 1);
    }

    private static void refusedTextChangesNothing() {
        PageDesks x = Rooms.of("d;q2;r3,abc");
        x.come(2);
        x.reading(1, 0, 0);
        C.due("a text that ends too soon", Rooms.take(x, "d;c1;c1;c1,"), -111);
        C.dueRow("many stays", Rooms.each(0, 4, x::many), 2, 3, 2, 3, 1);
        C.dueRow("desk 0 stays", Rooms.each(0, 5, w -> x.ofDesk(0, w)), 0, 2, 3, 2, 0, 0);
        C.dueRow("the line stays", Rooms.each(0, 2, x::line), 0, 1, 2);
        C.due("sizes stay", x.sizes(1), 62);
    }

    private static void ofDesk() {
        PageDesks x = Rooms.of("d;q2;c2;r2,abacadb");
        C.dueRow("queue at first", Rooms.each(0, 5, w -> x.ofDesk(0, w)), 0, 2, 0, 0, NONE, 0);
        x.come(1);
        C.dueRow("recent with a free frame", Rooms.each(0, 5, w -> x.ofDesk(2, w)), 2, 2, 1, 1, NONE, 0);
        x.come(2);
        C.dueRow("queue behind aba", Rooms.each(0, 5, w -> x.ofDesk(0, w)), 0, 2, 3, 2, 0, 0);
        C.dueRow("chance behind aba", Rooms.each(0, 5, w -> x.ofDesk(1, w)), 1, 2, 3, 2, 1, 1);
        C.dueRow("recent behind aba", Rooms.each(0, 5, w -> x.ofDesk(2, w)), 2, 2, 3, 2, 1, 1);
        x.come(1);
        C.dueRow("queue behind abac", Rooms.each(0, 5, w -> x.ofDesk(0, w)), 0, 2, 6, 3, 1, 0);
        C.dueRow("chance behind abac", Rooms.each(0, 5, w -> x.ofDesk(1, w)), 1, 2, 5, 3, 0, 0);
        C.dueRow("recent behind abac", Rooms.each(0, 5, w -> x.ofDesk(2, w)), 2, 2, 5, 3, 0, 1);
        x.come(1);
        C.dueRow("queue behind abaca", Rooms.each(0, 5, w -> x.ofDesk(0, w)), 0, 2, 5, 4, 2, 0);
        C.dueRow("chance behind abaca", Rooms.each(0, 5, w -> x.ofDesk(1, w)), 1, 2, 5, 3, 2, 1);
        C.dueRow("recent behind abaca", Rooms.each(0, 5, w -> x.ofDesk(2, w)), 2, 2, 5, 3, 2, 1);
        x.come(2);
        C.dueRow("queue behind all", Rooms.each(0, 5, w -> x.ofDesk(0, w)), 0, 2, 10, 6, 3, 0);
        C.dueRow("chance behind all", Rooms.each(0, 5, w -> x.ofDesk(1, w)), 1, 2, 10, 5, 3, 0);
        C.dueRow("recent behind all", Rooms.each(0, 5, w -> x.ofDesk(2, w)), 2, 2, 10, 5, 3, 0);
        C.due("what below", x.ofDesk(0, -1), OUTSIDE);
        C.due("what above", x.ofDesk(0, 6), OUTSIDE);
        C.due("desk below", x.ofDesk(-1, 0), UNKNOWN);
        C.due("desk above, ahead of what", x.ofDesk(3, 6), UNKNOWN);
    }

    private static void chanceWithAllUsed() {
        PageDesks x = Rooms.of("d;c2;c3,ababc");
        x.come(4);
        C.dueRow("all are used", Rooms.each(0, 5, w -> x.ofDesk(0, w)), 1, 2, 3, 2, 0, 3);
        C.due("used, but a frame is free", x.ofDesk(1, 4), NONE);
        x.come(1);
        C.dueRow("none is used any more", Rooms.each(0, 5, w -> x.ofDesk(0, w)), 1, 2, 6, 3, 1, 0);
        C.dueRow("its row", Rooms.each(0, 2, p -> x.lies(0, p)), 1, 2, NONE);
        C.dueRow("used, all frames taken", Rooms.each(0, 5, w -> x.ofDesk(1, w)), 1, 3, 7, 3, 2, 3);
    }

    private static void chanceWithAllUsedAndLess() {
        PageDesks x = Rooms.of("d;c2;c3,bcbc");
        x.come(4);
        C.due("the first of two, none beyond them", x.ofDesk(0, 4), 1);
        PageDesks y = Rooms.of("d;c3,abcbc");
        y.come(5);
        y.build(0, 2);
        C.dueRow("two frames where there were three", Rooms.each(0, 5, w -> y.ofDesk(0, w)), 1, 2, 6, 3, 1, 6);
    }

    private static void lies() {
        PageDesks x = Rooms.of("d;q3;c3;r3;r5,abcabdhgfe");
        C.dueRow("nothing lies there", Rooms.each(0, 4, p -> x.lies(0, p)), NONE, NONE, NONE, NONE, NONE);
        x.come(2);
        C.dueRow("two lie there", Rooms.each(0, 4, p -> x.lies(0, p)), 0, 1, NONE, NONE, NONE);
        x.come(3);
        C.dueRow("queue, hits", Rooms.each(0, 4, p -> x.lies(0, p)), 0, 1, 2, NONE, NONE);
        C.dueRow("chance, hits", Rooms.each(0, 4, p -> x.lies(1, p)), 0, 1, 2, NONE, NONE);
        C.dueRow("recent, hits", Rooms.each(0, 4, p -> x.lies(2, p)), 2, 0, 1, NONE, NONE);
        x.come(1);
        C.dueRow("queue, a miss", Rooms.each(0, 4, p -> x.lies(0, p)), 1, 2, 3, NONE, NONE);
        C.dueRow("chance, a miss past two that were used", Rooms.each(0, 4, p -> x.lies(1, p)), 0, 1, 3, NONE, NONE);
        C.dueRow("recent, a miss", Rooms.each(0, 4, p -> x.lies(2, p)), 0, 1, 3, NONE, NONE);
        x.come(4);
        C.dueRow("five frames", Rooms.each(0, 4, p -> x.lies(3, p)), 3, 7, 6, 5, 4);
        C.due("p below", x.lies(0, -1), OUTSIDE);
        C.due("p above", x.lies(0, 5), OUTSIDE);
        C.due("desk below, ahead of p", x.lies(-1, 5), UNKNOWN);
        C.due("desk above", x.lies(4, 0), UNKNOWN);
    }

    private static void line() {
        PageDesks x = Rooms.of("d;q3,hgabcdef");
        C.dueRow("the line", Rooms.each(-1, 8, x::line), UNKNOWN, 7, 6, 0, 1, 2, 3, 4, 5, UNKNOWN);
        C.due("far below", x.line(Integer.MIN_VALUE), UNKNOWN);
        C.due("far above", x.line(Integer.MAX_VALUE), UNKNOWN);
    }

    private static void build() {
        PageDesks x = Rooms.of("d;q3;r1,abcdabeabcde");
        x.come(12);
        C.due("misses by 3", x.ofDesk(0, 3), 9);
        C.due("3 it had", x.build(0, 4), 3);
        C.dueRow("as if it had had 4", Rooms.each(0, 5, w -> x.ofDesk(0, w)), 0, 4, 30, 10, 1, 0);
        C.dueRow("its row", Rooms.each(0, 4, p -> x.lies(0, p)), 1, 2, 3, 4, NONE);
        C.due("4 it had", x.build(0, 1), 4);
        C.dueRow("as if it had had 1", Rooms.each(0, 5, w -> x.ofDesk(0, w)), 0, 1, 16, 12, 4, 0);
        C.due("1 the other has", x.build(1, 1), 1);
        C.due("how many had come stays", x.many(2), 12);
        C.due("0 frames", x.build(0, 0), OUTSIDE);
        C.due("6 frames", x.build(0, 6), OUTSIDE);
        C.due("no desk, ahead of frames", x.build(2, 0), UNKNOWN);
        C.due("no desk", x.build(-1, 1), UNKNOWN);
        C.due("nothing was changed", x.ofDesk(0, 1), 1);
    }

    private static void many() {
        PageDesks x = Rooms.of("d;q3;r1,abcab");
        x.come(2);
        x.reading(0, 4, 1);
        C.dueRow("many", Rooms.each(-1, 5, x::many), OUTSIDE, 2, 5, 2, 3, 1, OUTSIDE);
        C.due("many without a room", new PageDesks().many(5), OUTSIDE);
    }
}
