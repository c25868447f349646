/** Promises 19 to 23: no reading and eight, readings that can't be, odds of nothing. */
public final class ReadingsEdgesTest {
    private static final Check C = new Check("ReadingsEdgesTest");
    private static final int UNKNOWN = PageDesks.UNKNOWN, OUTSIDE = PageDesks.OUTSIDE, FULL = PageDesks.FULL;
    private static final long LOST = PageDesks.LOST;
    private static final String ROUND = "abcdefghabcdefghabcdefgh";

    public static void main(String[] args) {
        upToTheEighth();
        numbersBehindTakingBack();
        firstAndLastAsk();
        asksThatHaveNotCome();
        sameReadingTwice();
        readingsThatCannotBe();
        refusedReadingIsNone();
        backNoneAndAll();
        backBeyond();
        sizesLeastAndMost();
        sizesAreUpToFiveFrames();
        kindsOneAndAll();
        otherDesksAreAsTheyAre();
        oddsOfNoAsk();
        oddsOfAnEmptyDesk();
        oddsInLeastTerms();
        oddsAsItIsNow();
        oddsRefused();
        withoutRoom();
        C.end();
    }

    private static void upToTheEighth() {
        PageDesks x = Rooms.of("d;q1;r5," + ROUND);
        for (int r = 0; r < 8; r++) {
            C.due("so many there are", x.many(4), r);
            C.due("reading " + r, x.reading(r % 2, 23 - r, 0), r);
        }
        C.due("a ninth", x.reading(0, 0, 0), FULL);
        C.due("a ninth that is a hit", x.reading(1, 23, 1), FULL);
        C.due("a ninth of no ask", x.reading(0, 24, 0), UNKNOWN);
        C.due("a ninth that is neither", x.reading(0, 0, 2), OUTSIDE);
        C.due("eight stay", x.many(4), 8);
        C.due("the ninth does not count", x.sizes(1), 62);
    }

    private static void numbersBehindTakingBack() {
        PageDesks x = World.FULL.make();
        C.due("one is taken back", x.back(1), 7);
        C.due("another has its number", x.reading(0, 0, 0), 7);
        C.due("full again", x.reading(0, 0, 0), FULL);
        C.due("all are taken back", x.back(8), 0);
        C.due("the first again", x.reading(0, 0, 0), 0);
    }

    private static void firstAndLastAsk() {
        PageDesks x = Rooms.of("d;q5," + ROUND);
        C.due("the first", x.reading(0, 0, 0), 0);
        C.due("the last", x.reading(0, 23, 0), 1);
        C.due("both are so by any frames", x.sizes(0), 62);
        C.due("the last is no hit by any", x.reading(0, 23, 1), 2);
        C.due("by none", x.sizes(0), 0);
        C.due("ahead of the first", x.reading(0, -1, 0), UNKNOWN);
        C.due("behind the last", x.reading(0, 24, 0), UNKNOWN);
    }

    /** Readings are of the line, not of what has come. */
    private static void asksThatHaveNotCome() {
        PageDesks x = Rooms.of("d;q2,aba");
        C.due("the last, that has not come", x.reading(0, 2, 1), 0);
        C.due("by two frames and more", x.sizes(0), 60);
        x.come(3);
        C.due("they are the same when it has come", x.sizes(0), 60);
        x.anew();
        C.due("and anew", x.sizes(0), 60);
        C.due("the reading stays", x.many(4), 1);
        C.due("one put behind can be read", x.ask(0) + x.reading(0, 3, 1), 5);
    }

    private static void sameReadingTwice() {
        PageDesks x = Rooms.of("d;q2,aba");
        C.due("once", x.reading(0, 2, 1), 0);
        C.due("twice", x.reading(0, 2, 1), 1);
        C.due("no other sizes", x.sizes(0), 60);
        C.due("one is taken back", x.back(1), 1);
        C.due("no other sizes either", x.sizes(0), 60);
    }

    private static void readingsThatCannotBe() {
        PageDesks x = Rooms.of("d;q2;c2,aba");
        C.due("a hit", x.reading(0, 2, 1), 0);
        C.due("and a miss of the same", x.reading(0, 2, 0), 1);
        C.dueRow("no sizes of any desk", Rooms.each(0, 1, x::sizes), 0, 0);
        C.dueRow("no kinds of any desk", Rooms.each(0, 1, x::kinds), 0, 0);
        C.due("they are readings all the same", x.many(4), 2);
        x.back(2);
        C.due("the first ask is no hit", x.reading(1, 0, 1), 0);
        C.dueRow("no sizes", Rooms.each(0, 1, x::sizes), 0, 0);
    }

    private static void refusedReadingIsNone() {
        PageDesks x = Rooms.of("d;q2;c2,aba");
        C.due("no desk", x.reading(2, 0, 1), UNKNOWN);
        C.due("no ask", x.reading(0, 3, 1), UNKNOWN);
        C.due("neither", x.reading(0, 0, 2), OUTSIDE);
        C.due("neither, below", x.reading(0, 0, -1), OUTSIDE);
        C.due("none there is", x.many(4), 0);
        C.due("all sizes", x.sizes(0), 62);
    }

    private static void backNoneAndAll() {
        PageDesks x = World.FULL.make();
        C.due("none of eight", x.back(0), 8);
        C.due("all but one", x.back(7), 1);
        C.due("the last one", x.back(1), 0);
        C.due("none of none", x.back(0), 0);
        PageDesks y = World.FULL.make();
        C.due("all eight at once", y.back(8), 0);
    }

    private static void backBeyond() {
        PageDesks x = World.FULL.make();
        C.due("nine of eight", x.back(9), OUTSIDE);
        C.due("eight stay", x.many(4), 8);
        C.due("below 0", x.back(-1), OUTSIDE);
        C.due("far below 0", x.back(Integer.MIN_VALUE), OUTSIDE);
        C.due("eight stay all the same", x.many(4), 8);
        x.back(8);
        C.due("one of none", x.back(1), OUTSIDE);
    }

    private static void sizesLeastAndMost() {
        PageDesks x = Rooms.of("d;r3,abcdea");
        C.due("without readings: 1 .. 5", x.sizes(0), 62);
        x.reading(0, 5, 1);
        C.due("a hit by five alone", x.sizes(0), 32);
        x.back(1);
        x.reading(0, 5, 0);
        C.due("a miss by all others", x.sizes(0), 30);
        PageDesks y = Rooms.of("d;r3,aba");
        y.reading(0, 2, 0);
        C.due("a miss by one alone", y.sizes(0), 2);
    }

    private static void sizesAreUpToFiveFrames() {
        PageDesks x = Rooms.of("d;r5,abcdefa");
        x.reading(0, 6, 1);
        C.due("a hit by six frames, that no desk has", x.sizes(0), 0);
        C.due("no kind either", x.kinds(0), 0);
    }

    private static void kindsOneAndAll() {
        PageDesks x = Rooms.of("d;c2,abacadb");
        C.due("without readings", x.kinds(0), 7);
        x.reading(0, 4, 0);
        C.due("a queue alone", x.kinds(0), 1);
        x.reading(0, 4, 1);
        C.due("none", x.kinds(0), 0);
        PageDesks y = Rooms.of("d;q1,aba");
        y.reading(0, 2, 0);
        C.due("by one frame all are alike", y.kinds(0), 7);
    }

    private static void otherDesksAreAsTheyAre() {
        PageDesks x = Rooms.of("d;q1;q5;q1;q1,aba");
        x.reading(3, 2, 1);
        C.dueRow("only the desk of the reading can be otherwise", Rooms.each(0, 3, x::sizes), 0, 0, 0, 60);
        C.dueRow("no kind makes it so", Rooms.each(0, 3, x::kinds), 0, 0, 0, 0);
        x.build(3, 2);
        C.dueRow("now it is so", Rooms.each(0, 3, x::sizes), 62, 62, 62, 60);
        C.dueRow("now it is so, kinds", Rooms.each(0, 3, x::kinds), 7, 7, 7, 7);
    }

    private static void oddsOfNoAsk() {
        PageDesks x = Rooms.of("d;q1;c5,abcde");
        C.due("on an empty desk, upper", x.odds(0, 0, 0), 1);
        C.due("on an empty desk, lower", x.odds(0, 0, 1), 1);
        x.come(5);
        C.due("on a full desk, upper", x.odds(1, 0, 0), 1);
        C.due("on a full desk, lower", x.odds(1, 0, 1), 1);
    }

    private static void oddsOfAnEmptyDesk() {
        PageDesks x = Rooms.of("d;r5,abcde");
        for (int n = 1; n <= 3; n++) {
            C.due(n + " asks, upper", x.odds(0, n, 0), 0);
            C.due(n + " asks, lower, above 0 and in least terms", x.odds(0, n, 1), 1);
        }
    }

    private static void oddsInLeastTerms() {
        PageDesks x = Rooms.of("d;c5,abcde");
        long[][] upper = {{1, 1, 1}, {1, 1, 1}, {3, 9, 27}, {1, 1, 1}, {5, 25, 125}};
        long[][] lower = {{8, 64, 512}, {4, 16, 64}, {8, 64, 512}, {2, 4, 8}, {8, 64, 512}};
        for (int lying = 1; lying <= 5; lying++) {
            x.come(1);
            C.dueRow(lying + " lie there, upper", Rooms.each(1, 3, n -> x.odds(0, n, 0)), upper[lying - 1]);
            C.dueRow(lying + " lie there, lower", Rooms.each(1, 3, n -> x.odds(0, n, 1)), lower[lying - 1]);
        }
    }

    private static void oddsAsItIsNow() {
        PageDesks x = Rooms.of("d;q5,abcde");
        x.come(5);
        C.due("five of eight", x.odds(0, 1, 0), 5);
        x.build(0, 4);
        C.due("four of eight, upper", x.odds(0, 1, 0), 1);
        C.due("four of eight, lower", x.odds(0, 1, 1), 2);
        x.anew();
        C.due("none of eight", x.odds(0, 1, 0), 0);
        C.due("nothing is changed", x.many(2), 0);
    }

    private static void oddsRefused() {
        PageDesks x = Rooms.of("d;q5,abcde");
        C.dueRow("n", Rooms.each(-1, 4, n -> x.odds(0, n, 1)), LOST, 1, 1, 1, 1, LOST);
        C.dueRow("which", Rooms.each(-1, 2, which -> x.odds(0, 0, which)), LOST, 1, 1, LOST);
        C.dueRow("desk", Rooms.each(-1, 1, k -> x.odds(k, 0, 0)), LOST, 1, LOST);
    }

    private static void withoutRoom() {
        PageDesks x = new PageDesks();
        C.due("reading", x.reading(0, 0, 0), UNKNOWN);
        C.due("back none", x.back(0), 0);
        C.due("back one", x.back(1), OUTSIDE);
        C.due("sizes", x.sizes(0), UNKNOWN);
        C.due("kinds", x.kinds(0), UNKNOWN);
        C.due("odds", x.odds(0, 0, 0), LOST);
    }
}
