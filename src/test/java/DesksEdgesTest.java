/** The second part of the terms, promises 1, 3 to 6, 34: desks that are empty, full, of one frame, all used. */
public final class DesksEdgesTest {
    private static final Check C = new Check("DesksEdgesTest");
    private static final int UNKNOWN = PageDesks.UNKNOWN, OUTSIDE = PageDesks.OUTSIDE, NONE = PageDesks.NONE;
    private static final String PAGES = "abcdefgh";

    public static void main(String[] args) {
        newObject();
        upToTheLastFreeFrame();
        oneFrame();
        hitOnTheFirst();
        hitOnTheLast();
        missWithAllUsed();
        allUsedAndNothingBeyond();
        missWithAllButTheLastUsed();
        missWithAllButTheFirstUsed();
        comesBackNotUsed();
        hitWithFreeFrames();
        placesOfARow();
        firstAndLastAsk();
        buildLeastAndMost();
        buildBehindNoAsk();
        buildBehindAllAsks();
        buildWhatItHas();
        buildRefused();
        pagesOfTheLine();
        C.end();
    }

    /** Promises 1, 32 to 34: no room, nothing on any sheet, TRACE and fault() 0. */
    private static void newObject() {
        PageDesks x = new PageDesks();
        C.due("trace()", x.trace(), 0);
        C.due("fault()", x.fault(), 0);
        C.dueRow("many", Rooms.each(0, 4, x::many), 0, 0, 0, 0, 0);
        C.dueRow("no desk", Rooms.each(0, 3, k -> x.ofDesk(k, 0)), UNKNOWN, UNKNOWN, UNKNOWN, UNKNOWN);
        C.due("no ask", x.line(0), UNKNOWN);
        C.dueRow("nothing to lose", Rooms.each(0, 3, x::lose), 0, 0, 0, 0);
        C.due("no reading to take back", x.back(0), 0);
        C.due("fault() behind calls that name none", x.fault(), 0);
        C.due("another object's room is not this one's", Rooms.of("d;q1,a").many(0) + new PageDesks().many(0), 1);
    }

    /** Promise 3: nobody would go up to the last free frame; then the first. */
    private static void upToTheLastFreeFrame() {
        for (int frames = 1; frames <= 5; frames++) {
            PageDesks x = Rooms.of(("d;q_;c_;r_," + PAGES).replace('_', (char) ('0' + frames)));
            for (int came = 0; came <= 8; came++) {
                int first = Math.max(0, came - frames);
                int lying = (1 << came) - (1 << first);
                int goes = came < frames ? NONE : first;
                for (int k = 0; k < 3; k++) {
                    int desk = k;
                    C.dueRow(frames + " frames, desk " + k + ", " + came + " came",
                        Rooms.each(0, 5, w -> x.ofDesk(desk, w)), k, frames, lying, came, goes, 0);
                }
                if (came < 8) {
                    C.due("a miss on each", x.come(1), 3);
                }
            }
        }
    }

    private static void oneFrame() {
        PageDesks x = Rooms.of("d;q1;c1;r1,aab");
        C.due("a miss on each", x.come(1), 3);
        C.due("a hit on each", x.come(1), 0);
        C.dueRow("used", Rooms.each(0, 2, k -> x.ofDesk(k, 5)), 0, 1, 1);
        C.dueRow("would go, used or not", Rooms.each(0, 2, k -> x.ofDesk(k, 4)), 0, 0, 0);
        C.due("b is missed on each", x.come(1), 3);
        for (int k = 0; k < 3; k++) {
            int desk = k;
            C.dueRow("b alone on " + k, Rooms.each(0, 5, w -> x.ofDesk(desk, w)), k, 1, 2, 2, 1, 0);
            C.dueRow("its row", Rooms.each(0, 4, p -> x.lies(desk, p)), 1, NONE, NONE, NONE, NONE);
        }
    }

    private static void hitOnTheFirst() {
        PageDesks x = come("d;q3;c3;r3,abca");
        C.dueRow("queue stays", row(x, 0), 0, 1, 2, NONE, NONE);
        C.dueRow("chance stays", row(x, 1), 0, 1, 2, NONE, NONE);
        C.dueRow("recent puts it behind all others", row(x, 2), 1, 2, 0, NONE, NONE);
        C.dueRow("used", Rooms.each(0, 2, k -> x.ofDesk(k, 5)), 0, 1, 1);
        C.dueRow("would go", Rooms.each(0, 2, k -> x.ofDesk(k, 4)), 0, 1, 1);
    }

    private static void hitOnTheLast() {
        PageDesks x = come("d;q3;c3;r3,abcc");
        for (int k = 0; k < 3; k++) {
            C.dueRow("the row stays on " + k, row(x, k), 0, 1, 2, NONE, NONE);
        }
        C.dueRow("used", Rooms.each(0, 2, k -> x.ofDesk(k, 5)), 0, 4, 4);
        C.dueRow("would go", Rooms.each(0, 2, k -> x.ofDesk(k, 4)), 0, 0, 0);
    }

    /** All are spared once, are used no more, and then the first goes after all. */
    private static void missWithAllUsed() {
        PageDesks x = come("d;q5;c5;r5,edcbaabcde");
        C.dueRow("used", Rooms.each(0, 2, k -> x.ofDesk(k, 5)), 0, 31, 31);
        C.dueRow("would go", Rooms.each(0, 2, k -> x.ofDesk(k, 4)), 4, 4, 0);
        x.ask(5);
        C.due("f is missed on each", x.come(1), 3);
        C.dueRow("queue", row(x, 0), 3, 2, 1, 0, 5);
        C.dueRow("chance", row(x, 1), 3, 2, 1, 0, 5);
        C.dueRow("recent", row(x, 2), 1, 2, 3, 4, 5);
        C.dueRow("used then", Rooms.each(0, 2, k -> x.ofDesk(k, 5)), 0, 0, 30);
        C.dueRow("would go then", Rooms.each(0, 2, k -> x.ofDesk(k, 4)), 3, 3, 1);
    }

    /** The first would go, not what an empty place beyond the row might tell. */
    private static void allUsedAndNothingBeyond() {
        C.dueRow("two", Rooms.each(0, 5, w -> come("d;c2,bcbc").ofDesk(0, w)), 1, 2, 6, 2, 1, 6);
        PageDesks x = come("d;c3,abcbc");
        C.due("three, of which a is not used", x.ofDesk(0, 4), 0);
        x.build(0, 2);
        C.due("two, where a has lain", x.ofDesk(0, 4), 1);
    }

    private static void missWithAllButTheLastUsed() {
        PageDesks x = come("d;c4,abcdabc");
        C.due("the last would go", x.ofDesk(0, 4), 3);
        x.ask(7);
        x.come(1);
        C.dueRow("the others lie as they lay, used no more", row(x, 0), 0, 1, 2, 7, NONE);
        C.due("used", x.ofDesk(0, 5), 0);
    }

    private static void missWithAllButTheFirstUsed() {
        PageDesks x = come("d;c4,abcdbcd");
        C.due("the first would go", x.ofDesk(0, 4), 0);
        x.ask(7);
        x.come(1);
        C.dueRow("none is spared", row(x, 0), 1, 2, 3, 7, NONE);
        C.due("so they stay used", x.ofDesk(0, 5), 14);
    }

    /** Whoever goes is used no more, also if it comes back. */
    private static void comesBackNotUsed() {
        PageDesks x = come("d;c1;r1,aaba");
        C.dueRow("not used", Rooms.each(0, 1, k -> x.ofDesk(k, 5)), 0, 0);
        PageDesks y = come("d;r2,aabca");
        C.due("a went used, and comes back not used", y.ofDesk(0, 5), 0);
        C.dueRow("its row", row(y, 0), 2, 0, NONE, NONE, NONE);
    }

    private static void hitWithFreeFrames() {
        PageDesks x = come("d;q5;c5;r5,abba");
        C.dueRow("queue", row(x, 0), 0, 1, NONE, NONE, NONE);
        C.dueRow("chance", row(x, 1), 0, 1, NONE, NONE, NONE);
        C.dueRow("recent", row(x, 2), 1, 0, NONE, NONE, NONE);
        C.dueRow("used", Rooms.each(0, 2, k -> x.ofDesk(k, 5)), 0, 3, 3);
        C.dueRow("nobody would go", Rooms.each(0, 2, k -> x.ofDesk(k, 4)), NONE, NONE, NONE);
    }

    /** Promise 4: each place is empty up to its page, also those beyond the frames. */
    private static void placesOfARow() {
        PageDesks x = Rooms.of("d;q1;q5," + PAGES);
        C.dueRow("no page", row(x, 1), NONE, NONE, NONE, NONE, NONE);
        x.come(4);
        C.dueRow("a free place", row(x, 1), 0, 1, 2, 3, NONE);
        C.dueRow("places beyond the frames", row(x, 0), 3, NONE, NONE, NONE, NONE);
        x.come(4);
        C.dueRow("all places", row(x, 1), 3, 4, 5, 6, 7);
    }

    /** Promise 5. */
    private static void firstAndLastAsk() {
        PageDesks x = Rooms.of("d;q1,h");
        C.dueRow("one ask", Rooms.each(-1, 1, x::line), UNKNOWN, 7, UNKNOWN);
        PageDesks y = Rooms.of("d;q1,ah" + "b".repeat(20) + "hg");
        C.dueRow("24 asks, the first", Rooms.each(-1, 1, y::line), UNKNOWN, 0, 7);
        C.dueRow("24 asks, the last", Rooms.each(22, 24, y::line), 7, 6, UNKNOWN);
    }

    /** Promise 6: whatever is built, the desk is as if it had had it from the first ask on. */
    private static void buildLeastAndMost() {
        PageDesks x = come("d;q3;c3;r3,abcabd");
        C.dueRow("3 they had", Rooms.each(0, 2, k -> x.build(k, 5)), 3, 3, 3);
        C.dueRow("misses by 5", Rooms.each(0, 2, k -> x.ofDesk(k, 3)), 4, 4, 4);
        C.dueRow("used", Rooms.each(0, 2, k -> x.ofDesk(k, 5)), 0, 3, 3);
        C.dueRow("a free frame", Rooms.each(0, 2, k -> x.ofDesk(k, 4)), NONE, NONE, NONE);
        C.dueRow("recent's row", row(x, 2), 2, 0, 1, 3, NONE);
        C.dueRow("5 they had", Rooms.each(0, 2, k -> x.build(k, 1)), 5, 5, 5);
        C.dueRow("misses by 1", Rooms.each(0, 2, k -> x.ofDesk(k, 3)), 6, 6, 6);
        C.dueRow("d alone lies there", Rooms.each(0, 2, k -> x.ofDesk(k, 2)), 8, 8, 8);
        C.dueRow("none is used", Rooms.each(0, 2, k -> x.ofDesk(k, 5)), 0, 0, 0);
        C.dueRow("1 they had", Rooms.each(0, 2, k -> x.build(k, 3)), 1, 1, 1);
        C.dueRow("as at first: misses", Rooms.each(0, 2, k -> x.ofDesk(k, 3)), 4, 4, 4);
        C.dueRow("as at first: who would go", Rooms.each(0, 2, k -> x.ofDesk(k, 4)), 1, 0, 0);
        C.dueRow("as at first: who is used", Rooms.each(0, 2, k -> x.ofDesk(k, 5)), 0, 0, 3);
    }

    private static void buildBehindNoAsk() {
        PageDesks x = Rooms.of("d;c2,abab");
        C.due("2 it had", x.build(0, 1), 2);
        C.dueRow("nothing lies there", Rooms.each(0, 5, w -> x.ofDesk(0, w)), 1, 1, 0, 0, NONE, 0);
        C.due("four misses by one frame", x.come(4), 4);
    }

    private static void buildBehindAllAsks() {
        PageDesks x = come("d;q5," + PAGES + PAGES + PAGES);
        C.due("24 misses", x.ofDesk(0, 3), 24);
        C.due("5 it had", x.build(0, 4), 5);
        C.dueRow("24 still", Rooms.each(0, 5, w -> x.ofDesk(0, w)), 0, 4, 240, 24, 4, 0);
        C.due("all have come", x.many(2), 24);
    }

    private static void buildWhatItHas() {
        PageDesks x = World.BUSY.make();
        C.dueRow("the frames they have", Rooms.each(0, 2, k -> x.build(k, 2 + k)), 2, 3, 4);
        C.due("nothing is changed", World.seen(x).equals(World.seen(World.BUSY.make())) ? 1 : 0, 1);
    }

    private static void buildRefused() {
        PageDesks x = World.FULL.make();
        C.dueRow("too few", Rooms.each(-1, 0, v -> x.build(0, v)), OUTSIDE, OUTSIDE);
        C.dueRow("too many", Rooms.each(6, 8, v -> x.build(3, v)), OUTSIDE, OUTSIDE, OUTSIDE);
        C.dueRow("5 stay", Rooms.each(0, 3, k -> x.ofDesk(k, 1)), 5, 5, 5, 5);
    }

    /** Promise 34: unlike pages, from one to all eight, as asks are put behind and taken away. */
    private static void pagesOfTheLine() {
        PageDesks x = Rooms.of("d;q1,a");
        C.due("one", x.many(3), 1);
        for (int page = 0; page < 8; page++) {
            x.ask(page);
            C.due("up to page " + page, x.many(3), page + 1);
        }
        x.ask(7);
        C.due("h twice is no other page", x.many(3), 8);
        x.drop();
        C.due("h is still there once", x.many(3), 8);
        x.drop();
        C.due("h is gone", x.many(3), 7);
    }

    /** A room by a text whose asks have all come. */
    private static PageDesks come(String text) {
        PageDesks x = Rooms.of(text);
        x.come(x.many(1));
        return x;
    }

    private static long[] row(PageDesks x, int k) {
        return Rooms.each(0, 4, p -> x.lies(k, p));
    }
}
