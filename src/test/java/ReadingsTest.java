/** Promises 19 to 23: readings, and odds. */
public final class ReadingsTest {
    private static final Check C = new Check("ReadingsTest");
    private static final int UNKNOWN = PageDesks.UNKNOWN, OUTSIDE = PageDesks.OUTSIDE, FULL = PageDesks.FULL;
    private static final long LOST = PageDesks.LOST;
    private static final String BELADY = "d;q3;c3;r3;q4,abcdabeabcde";

    public static void main(String[] args) {
        reading();
        back();
        sizes();
        kinds();
        readingsOfOthers();
        odds();
        C.end();
    }

    private static void reading() {
        PageDesks x = Rooms.of(BELADY);
        C.due("desk below", x.reading(-1, 0, 0), UNKNOWN);
        C.due("desk above, ahead of hit", x.reading(4, 0, 2), UNKNOWN);
        C.due("ask below", x.reading(0, -1, 0), UNKNOWN);
        C.due("ask above, ahead of hit", x.reading(0, 12, 2), UNKNOWN);
        C.due("hit below", x.reading(0, 0, -1), OUTSIDE);
        C.due("hit above", x.reading(0, 0, 2), OUTSIDE);
        C.due("none yet", x.many(4), 0);
        for (int r = 0; r < 8; r++) {
            C.due("reading " + r, x.reading(r % 4, r, 0), r);
        }
        C.due("a ninth", x.reading(0, 0, 0), FULL);
        C.due("OUTSIDE ahead of FULL", x.reading(0, 0, 2), OUTSIDE);
        C.due("UNKNOWN ahead of FULL", x.reading(4, 0, 0), UNKNOWN);
        C.due("there are 8", x.many(4), 8);
        C.due("without a room", new PageDesks().reading(0, 0, 0), UNKNOWN);
    }

    private static void back() {
        PageDesks x = Rooms.of(BELADY);
        x.reading(0, 7, 1);
        x.reading(0, 11, 0);
        x.reading(0, 0, 1);
        C.due("all three", x.sizes(0), 0);
        C.due("below", x.back(-1), OUTSIDE);
        C.due("four of three", x.back(4), OUTSIDE);
        C.due("none", x.back(0), 3);
        C.due("the last", x.back(1), 2);
        C.due("no size has a hit at 7 and a miss at 11", x.sizes(0), 0);
        C.due("another", x.back(1), 1);
        C.due("a hit at 7", x.sizes(0), 40);
        C.due("the numbers go on", x.reading(0, 8, 1), 1);
        C.due("all", x.back(2), 0);
        C.due("none is left", x.back(1), OUTSIDE);
        C.due("without a room", new PageDesks().back(0), 0);
        C.due("one without a room", new PageDesks().back(1), OUTSIDE);
    }

    private static void sizes() {
        PageDesks x = Rooms.of(BELADY);
        C.dueRow("without readings", Rooms.each(-1, 4, x::sizes), UNKNOWN, 62, 62, 62, 62, UNKNOWN);
        x.reading(0, 0, 0);
        C.due("the first is a miss by all", x.sizes(0), 62);
        x.reading(0, 4, 0);
        C.due("a is missed by 1 .. 3", x.sizes(0), 14);
        x.reading(0, 7, 1);
        C.due("a is hit by 3", x.sizes(0), 8);
        x.build(0, 1);
        C.due("whatever it has", x.sizes(0), 8);
        x.come(12);
        C.due("whatever has come", x.sizes(0), 8);
        C.due("nothing is changed", x.ofDesk(0, 3), 12);
    }

    private static void kinds() {
        PageDesks x = Rooms.of("d;q2;c2;r2,abacadb");
        C.dueRow("without readings", Rooms.each(-1, 3, x::kinds), UNKNOWN, 7, 7, 7, UNKNOWN);
        x.reading(0, 4, 0);
        C.due("a queue misses a", x.kinds(0), 1);
        x.back(1);
        x.reading(0, 4, 1);
        C.due("the others hit it", x.kinds(0), 6);
        x.build(0, 1);
        C.due("by one frame none does", x.kinds(0), 0);
        x.build(0, 3);
        C.due("by three all do", x.kinds(0), 7);
        PageDesks y = Rooms.of("d;c3,abcbadea");
        y.reading(0, 7, 1);
        C.due("a recent alone has used a behind b", y.kinds(0), 4);
        y.back(1);
        y.reading(0, 7, 0);
        C.due("the others miss a", y.kinds(0), 3);
        PageDesks z = Rooms.of("d;r3,abcbadeb");
        z.reading(0, 7, 1);
        C.due("a chance alone keeps b, that came behind a", z.kinds(0), 2);
    }

    private static void readingsOfOthers() {
        PageDesks x = Rooms.of("d;q2;c2;r2,abacadb");
        x.reading(0, 4, 1);
        C.due("0 may have other frames", x.sizes(0), 56);
        C.due("0 may be of another kind", x.kinds(0), 6);
        C.due("1 alone can't make it so", x.sizes(1), 0);
        C.due("2 alone can't make it so", x.kinds(2), 0);
        x.build(0, 3);
        C.due("now 0 is so", x.sizes(1), 62);
        C.due("now 0 is so, for 2", x.kinds(2), 7);
        x.reading(1, 4, 0);
        C.due("1 hits a by more than one frame", x.sizes(1), 2);
        C.due("1 hits a but as a queue", x.kinds(1), 1);
        C.due("as it is, 1 hits a", x.sizes(0), 0);
        x.back(1);
        x.reading(1, 5, 1);
        C.due("nobody hits d", x.sizes(1), 0);
        C.due("so nothing of 0 makes it so", x.sizes(0), 0);
    }

    private static void odds() {
        PageDesks x = Rooms.of("d;q5;c2,abcde");
        C.due("nothing lies there, none asked, upper", x.odds(0, 0, 0), 1);
        C.due("nothing lies there, none asked, lower", x.odds(0, 0, 1), 1);
        C.due("nothing lies there, upper", x.odds(0, 2, 0), 0);
        C.due("nothing lies there, lower", x.odds(0, 2, 1), 1);
        x.come(4);
        C.dueRow("four lie there, upper", Rooms.each(0, 3, n -> x.odds(0, n, 0)), 1, 1, 1, 1);
        C.dueRow("four lie there, lower", Rooms.each(0, 3, n -> x.odds(0, n, 1)), 1, 2, 4, 8);
        C.dueRow("two lie there, lower", Rooms.each(0, 3, n -> x.odds(1, n, 1)), 1, 4, 16, 64);
        x.come(1);
        C.dueRow("five lie there, upper", Rooms.each(0, 3, n -> x.odds(0, n, 0)), 1, 5, 25, 125);
        C.dueRow("five lie there, lower", Rooms.each(0, 3, n -> x.odds(0, n, 1)), 1, 8, 64, 512);
        C.due("n below", x.odds(0, -1, 0), LOST);
        C.due("n above", x.odds(0, 4, 0), LOST);
        C.due("which below", x.odds(0, 1, -1), LOST);
        C.due("which above", x.odds(0, 1, 2), LOST);
        C.due("desk below", x.odds(-1, 1, 0), LOST);
        C.due("desk above", x.odds(2, 1, 0), LOST);
        x.put(0, 0, 0);
        x.odds(2, 1, 0);
        C.due("odds names no fault", x.fault(), 1);
    }
}
