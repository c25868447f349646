/** Promises 12 to 18: how much is missed. */
public final class MissesTest {
    private static final Check C = new Check("MissesTest");
    private static final int UNKNOWN = PageDesks.UNKNOWN, OUTSIDE = PageDesks.OUTSIDE, STATE = PageDesks.STATE;
    private static final int NONE = PageDesks.NONE;
    private static final String BELADY = "d;q3;c3;r3,abcdabeabcde";

    public static void main(String[] args) {
        misses();
        odd();
        need();
        fewest();
        latest();
        depth();
        work();
        C.end();
    }

    private static void misses() {
        PageDesks x = Rooms.of(BELADY);
        C.dueRow("queue", Rooms.each(1, 8, f -> x.misses(0, f)), 12, 12, 9, 10, 5, 5, 5, 5);
        C.dueRow("chance", Rooms.each(1, 8, f -> x.misses(1, f)), 12, 12, 10, 8, 5, 5, 5, 5);
        C.dueRow("recent", Rooms.each(1, 8, f -> x.misses(2, f)), 12, 12, 10, 8, 5, 5, 5, 5);
        x.come(5);
        x.build(0, 1);
        C.due("whatever has come, whatever frames it has", x.misses(0, 4), 10);
        C.due("how it lies stays", x.ofDesk(0, 3), 5);
        x.ask(4);
        C.due("of the line as it is: e was asked last", x.misses(0, 4), 10);
        x.ask(5);
        C.due("of the line as it is: f is new", x.misses(0, 4), 11);
        C.due("f below", x.misses(0, 0), OUTSIDE);
        C.due("f above", x.misses(0, 9), OUTSIDE);
        C.due("desk above, ahead of f", x.misses(3, 9), UNKNOWN);
        C.due("desk below", x.misses(-1, 1), UNKNOWN);
        PageDesks y = Rooms.of("d;q1;c1;r1,abacadb");
        C.due("queue by 2", y.misses(0, 2), 6);
        C.due("chance by 2", y.misses(1, 2), 5);
        C.due("recent by 2", y.misses(2, 2), 5);
        PageDesks z = Rooms.of("d;q1;c1;r1,abcdefghabcdefghabcdefgh");
        for (int kind = 0; kind < 3; kind++) {
            int k = kind;
            C.dueRow("eight pages round", Rooms.each(1, 8, f -> z.misses(k, f)), 24, 24, 24, 24, 24, 24, 24, 8);
        }
    }

    private static void odd() {
        PageDesks x = Rooms.of(BELADY);
        C.dueRow("odd", Rooms.each(-1, 3, x::odd), UNKNOWN, 3, NONE, NONE, UNKNOWN);
        PageDesks y = Rooms.of("d;q1;c1;r1,beebfdf");
        C.dueRow("a chance that spares b and e misses f again", Rooms.each(1, 4, f -> y.misses(1, f)), 6, 4, 5, 4);
        C.dueRow("odd by two", Rooms.each(0, 2, y::odd), NONE, 2, NONE);
        C.due("one ask", Rooms.of("d;q1,a").odd(0), NONE);
        C.due("without a room", new PageDesks().odd(0), UNKNOWN);
    }

    private static void need() {
        PageDesks x = Rooms.of(BELADY);
        C.due("none by 4", x.need(0, 4), NONE);
        C.due("none by 0", x.need(0, 0), NONE);
        C.due("5 for 5", x.need(0, 5), 5);
        C.due("5 for 8", x.need(0, 8), 5);
        C.due("3 for 9", x.need(0, 9), 3);
        C.due("3 for 11", x.need(0, 11), 3);
        C.due("1 for 12", x.need(0, 12), 1);
        C.due("1 for 24", x.need(0, 24), 1);
        C.due("chance's 4 for 8", x.need(1, 8), 4);
        C.due("8 for 8", Rooms.of("d;q1,abcdefghabcdefgh").need(0, 8), 8);
        C.due("v below", x.need(0, -1), OUTSIDE);
        C.due("v above", x.need(0, 25), OUTSIDE);
        C.due("desk above, ahead of v", x.need(3, 25), UNKNOWN);
        C.due("desk below", x.need(-1, 0), UNKNOWN);
    }

    private static void fewest() {
        PageDesks x = Rooms.of(BELADY);
        C.dueRow("fewest", Rooms.each(0, 9, x::fewest), OUTSIDE, 12, 9, 7, 6, 5, 5, 5, 5, OUTSIDE);
        C.due("one ask", Rooms.of("d;q1,a").fewest(1), 1);
        C.due("hits without a frame to spare", Rooms.of("d;q1,aab").fewest(1), 2);
        C.due("without a room", new PageDesks().fewest(1), STATE);
        C.due("without a room, ahead of f", new PageDesks().fewest(9), STATE);
    }

    private static void latest() {
        PageDesks x = Rooms.of(BELADY);
        C.dueRow("by 2", Rooms.each(0, 11, i -> x.latest(2, i)),
            NONE, NONE, 1, 2, NONE, 3, 1, NONE, 0, 1, 2, NONE);
        C.dueRow("by 3", Rooms.each(0, 11, i -> x.latest(3, i)),
            NONE, NONE, NONE, 2, NONE, NONE, 3, NONE, NONE, 0, 1, NONE);
        C.dueRow("by 8", Rooms.each(0, 11, i -> x.latest(8, i)),
            NONE, NONE, NONE, NONE, NONE, NONE, NONE, NONE, NONE, NONE, NONE, NONE);
        PageDesks y = Rooms.of("d;q1,cbacd");
        C.due("never ahead of later", y.latest(2, 2), 1);
        C.due("of several the least", y.latest(2, 4), 0);
        PageDesks z = Rooms.of("d;q1,hga");
        C.due("of several the least, not the first", z.latest(2, 2), 6);
        C.due("by 1 the one that lies there", z.latest(1, 1), 7);
        C.due("ask above", x.latest(2, 12), UNKNOWN);
        C.due("ask below, ahead of f", x.latest(0, -1), UNKNOWN);
        C.due("f below", x.latest(0, 0), OUTSIDE);
        C.due("f above", x.latest(9, 0), OUTSIDE);
    }

    private static void depth() {
        PageDesks x = Rooms.of("d;q1,abcabbaa");
        C.dueRow("depth", Rooms.each(-1, 8, x::depth), UNKNOWN, NONE, NONE, NONE, 3, 3, 1, 2, 1, UNKNOWN);
        PageDesks y = Rooms.of("d;q1,abcdefgha");
        C.due("all eight", y.depth(8), 8);
        C.due("without a room", new PageDesks().depth(0), UNKNOWN);
    }

    private static void work() {
        PageDesks x = Rooms.of("d;q1,abcah");
        C.dueRow("of the last", Rooms.each(0, 6, w -> x.work(4, w)), OUTSIDE, 128, 129, 133, 135, 135, 135);
        C.dueRow("of the first", Rooms.each(23, 25, w -> x.work(0, w)), 1, 1, OUTSIDE);
        C.due("up to it alone", x.work(2, 2), 6);
        C.due("w below", x.work(0, -1), OUTSIDE);
        C.due("ask above, ahead of w", x.work(5, 25), UNKNOWN);
        C.due("ask below", x.work(-1, 1), UNKNOWN);
    }
}
