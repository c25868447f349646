import java.util.Arrays;

/** Promises 12 to 18: lines of one ask and of 24, one frame and eight, nothing that is told and all that is. */
public final class MissesEdgesTest {
    private static final Check C = new Check("MissesEdgesTest");
    private static final int UNKNOWN = PageDesks.UNKNOWN, OUTSIDE = PageDesks.OUTSIDE, STATE = PageDesks.STATE;
    private static final int NONE = PageDesks.NONE;
    private static final String ROUND = "abcdefghabcdefghabcdefgh";

    public static void main(String[] args) {
        lineOfOneAsk();
        lineOfOnePage();
        lineOfAllPagesRound();
        whateverHasCome();
        lineThatGrowsAndShrinks();
        oddLeastAndMost();
        oddOfRecentIsNone();
        needNoneAndOne();
        needIsTheLeast();
        fewestByOneAndByEight();
        fewestIsLatestMisses();
        latestOfSeveral();
        latestWithFreeFrames();
        latestOfTheLastAsk();
        depthLeastAndMost();
        workLeastAndMost();
        withoutRoom();
        C.end();
    }

    private static void lineOfOneAsk() {
        PageDesks x = Rooms.of("d;q1;c5;r3,h");
        for (int k = 0; k < 3; k++) {
            int desk = k;
            C.dueRow("misses on " + k, Rooms.each(0, 9, f -> x.misses(desk, f)), row(10, 1, OUTSIDE));
            C.due("odd", x.odd(k), NONE);
            C.dueRow("need", Rooms.each(-1, 2, v -> x.need(desk, v)), OUTSIDE, NONE, 1, 1);
        }
        C.dueRow("fewest", Rooms.each(0, 9, x::fewest), row(10, 1, OUTSIDE));
        C.dueRow("latest", Rooms.each(0, 9, f -> x.latest(f, 0)), row(10, NONE, OUTSIDE));
        C.dueRow("depth", Rooms.each(-1, 1, x::depth), UNKNOWN, NONE, UNKNOWN);
        C.dueRow("work", Rooms.each(0, 25, w -> x.work(0, w)), row(26, 128, OUTSIDE));
    }

    private static void lineOfOnePage() {
        PageDesks x = Rooms.of("d;q1;c1;r1," + "e".repeat(24));
        for (int k = 0; k < 3; k++) {
            C.due("one miss by one frame", x.misses(k, 1), 1);
            C.due("one miss by eight", x.misses(k, 8), 1);
            C.due("odd", x.odd(k), NONE);
            C.due("need for 1", x.need(k, 1), 1);
        }
        C.due("fewest", x.fewest(1), 1);
        C.due("the last makes none go", x.latest(1, 23), NONE);
        C.dueRow("depth", Rooms.each(0, 2, x::depth), NONE, 1, 1);
        C.due("work", x.work(23, 24), 16);
    }

    private static void lineOfAllPagesRound() {
        PageDesks x = Rooms.of("d;q1;c1;r1," + ROUND);
        for (int k = 0; k < 3; k++) {
            C.due("by seven frames all", x.misses(k, 7), 24);
            C.due("by eight each page once", x.misses(k, 8), 8);
            C.due("need for 24", x.need(k, 24), 1);
            C.due("need for 23", x.need(k, 23), 8);
            C.due("need for 8", x.need(k, 8), 8);
            C.due("need for 7", x.need(k, 7), NONE);
        }
        C.due("fewest by eight", x.fewest(8), 8);
        C.due("fewest by one", x.fewest(1), 24);
    }

    /** Of the whole line, whatever has come, and however many frames the desk has. */
    private static void whateverHasCome() {
        String text = "d;q3;c4;r2,abcdabeabcdeaahg";
        PageDesks none = Rooms.of(text);
        PageDesks all = Rooms.of(text);
        all.come(16);
        for (int k = 0; k < 3; k++) {
            int desk = k;
            all.build(k, 1);
            C.dueRow("misses", Rooms.each(1, 8, f -> all.misses(desk, f)), Rooms.each(1, 8, f -> none.misses(desk, f)));
            C.due("odd", all.odd(k), none.odd(k));
            C.dueRow("need", Rooms.each(0, 24, v -> all.need(desk, v)), Rooms.each(0, 24, v -> none.need(desk, v)));
            C.due("misses so far are by what it has", all.ofDesk(k, 3), all.misses(k, 1));
        }
        C.dueRow("fewest", Rooms.each(1, 8, all::fewest), Rooms.each(1, 8, none::fewest));
        C.dueRow("latest", Rooms.each(0, 15, i -> all.latest(2, i)), Rooms.each(0, 15, i -> none.latest(2, i)));
        C.dueRow("depth", Rooms.each(0, 15, all::depth), Rooms.each(0, 15, none::depth));
        C.dueRow("work", Rooms.each(0, 15, i -> all.work(i, 4)), Rooms.each(0, 15, i -> none.work(i, 4)));
    }

    private static void lineThatGrowsAndShrinks() {
        PageDesks x = Rooms.of("d;q1,ab");
        C.due("two", x.misses(0, 1), 2);
        x.ask(0);
        C.due("three", x.misses(0, 1), 3);
        C.due("fewest by two", x.fewest(2), 2);
        C.due("the third's depth", x.depth(2), 2);
        C.due("a goes for b, b for a", x.latest(1, 2), 1);
        x.drop();
        C.due("two again", x.misses(0, 1), 2);
        C.due("the third is none", x.depth(2), UNKNOWN);
        C.due("nor for latest", x.latest(1, 2), UNKNOWN);
        C.due("nor for work", x.work(2, 1), UNKNOWN);
    }

    private static void oddLeastAndMost() {
        C.due("by two", Rooms.of("d;c1,aeaecfc").odd(0), 2);
        C.due("by six", Rooms.of("d;c1,hechggddebbfacf").odd(0), 6);
        C.due("a queue by three", Rooms.of("d;q5,abcdabeabcde").odd(0), 3);
        C.due("a queue by five", Rooms.of("d;q1,fdcabgfdefdchbae").odd(0), 5);
        PageDesks x = Rooms.of("d;c1,hechggddebbfacf");
        C.due("misses by six", x.misses(0, 6), x.misses(0, 7) - 1);
        C.due("as many misses are no fewer", Rooms.of("d;q1," + ROUND).odd(0), NONE);
    }

    private static void oddOfRecentIsNone() {
        for (String line : new String[] {"aeaecfc", "hechggddebbfacf", "abcdabeabcde", "fdcabgfdefdchbae", ROUND}) {
            C.due("recent, " + line, Rooms.of("d;r1," + line).odd(0), NONE);
        }
    }

    private static void needNoneAndOne() {
        PageDesks x = Rooms.of("d;q3,abcdabeabcde");
        C.due("0 is never enough", x.need(0, 0), NONE);
        C.due("one less than the pages", x.need(0, 4), NONE);
        C.due("as many as the pages", x.need(0, 5), 5);
        C.due("as many as the asks", x.need(0, 12), 1);
        C.due("one less", x.need(0, 11), 3);
        C.due("24 is always enough", Rooms.of("d;r1," + ROUND).need(0, 24), 1);
    }

    /** The least, although one frame more misses more. */
    private static void needIsTheLeast() {
        PageDesks x = Rooms.of("d;q1,abcdabeabcde");
        C.dueRow("misses", Rooms.each(3, 5, f -> x.misses(0, f)), 9, 10, 5);
        C.due("for 9", x.need(0, 9), 3);
        C.due("for 8", x.need(0, 8), 5);
    }

    private static void fewestByOneAndByEight() {
        PageDesks x = Rooms.of("d;q1,aabbaabbccddccddeeffgghh");
        C.due("by one: but where the page ahead is the same", x.fewest(1), 12);
        C.due("by eight: each page once", x.fewest(8), 8);
        C.due("by as many as there are pages", Rooms.of("d;q1,abcabcabc").fewest(3), 3);
        C.due("by one less", Rooms.of("d;q1,abcabcabc").fewest(2), 6);
    }

    private static void fewestIsLatestMisses() {
        PageDesks x = Rooms.of("d;q1,abcdefghhgfedcbaacegbdfh");
        for (int f = 1; f <= 8; f++) {
            int goes = 0;
            for (int i = 0; i < 24; i++) {
                goes += x.latest(f, i) == NONE ? 0 : 1;
            }
            C.due("by " + f + ": whoever makes one go, and whoever finds a free frame", x.fewest(f), goes + f);
        }
    }

    /** Never is later than all; of several the least page. */
    private static void latestOfSeveral() {
        PageDesks x = Rooms.of("d;q1,hgfedcba");
        C.dueRow("all never again: the least that lies there", Rooms.each(0, 7, i -> x.latest(3, i)),
            NONE, NONE, NONE, 5, 4, 3, 2, 1);
        PageDesks y = Rooms.of("d;q1,abcdba");
        C.due("c never, ahead of a that is asked last", y.latest(3, 3), 2);
        PageDesks z = Rooms.of("d;q1,gacdgca");
        C.due("none is never: the latest", z.latest(3, 3), 0);
        PageDesks v = Rooms.of("d;q1,hadchch");
        C.due("a never again, but h again", v.latest(2, 2), 0);
        C.due("the page that has just gone is looked at no more", v.latest(2, 3), 3);
    }

    private static void latestWithFreeFrames() {
        PageDesks x = Rooms.of("d;q1,aabbcc");
        C.dueRow("by 1: hits make none go", Rooms.each(0, 5, i -> x.latest(1, i)), NONE, NONE, 0, NONE, 1, NONE);
        C.dueRow("by 2: the last free frame", Rooms.each(0, 5, i -> x.latest(2, i)), NONE, NONE, NONE, NONE, 0, NONE);
        C.dueRow("by 3: none goes", Rooms.each(0, 5, i -> x.latest(3, i)), NONE, NONE, NONE, NONE, NONE, NONE);
    }

    private static void latestOfTheLastAsk() {
        PageDesks x = Rooms.of("d;q1," + ROUND);
        C.due("the 24th by 1", x.latest(1, 23), 6);
        C.due("the 24th by 8", x.latest(8, 23), NONE);
        C.due("a 25th", x.latest(1, 24), UNKNOWN);
        C.due("the first", x.latest(1, 0), NONE);
        C.due("ahead of the first", x.latest(1, -1), UNKNOWN);
        PageDesks y = Rooms.of("d;q1,cba");
        C.due("the last: none is asked again, the least goes", y.latest(2, 2), 1);
    }

    private static void depthLeastAndMost() {
        PageDesks x = Rooms.of("d;q1,abcdefghabbbbbbbbbbbbbbh");
        C.due("the first", x.depth(0), NONE);
        C.due("the eighth, of a page of its own", x.depth(7), NONE);
        C.due("all eight pages", x.depth(8), 8);
        C.due("the same again", x.depth(10), 1);
        C.due("each page is counted once", x.depth(23), 3);
        C.due("a 25th", x.depth(24), UNKNOWN);
        C.due("the one ahead that is nearest", Rooms.of("d;q1,abcaa").depth(4), 1);
    }

    private static void workLeastAndMost() {
        PageDesks x = Rooms.of("d;q1," + ROUND);
        C.due("one ask: its page", x.work(23, 1), 128);
        C.due("two asks", x.work(23, 2), 192);
        C.due("eight asks", x.work(23, 8), 255);
        C.due("all 24", x.work(23, 24), 255);
        C.due("of the first there is no more than itself", x.work(0, 24), 1);
        C.due("just as many as there are", x.work(2, 3), 7);
        C.due("one more than there are", x.work(2, 4), 7);
        C.due("one less", x.work(2, 2), 6);
        C.due("none", x.work(23, 0), OUTSIDE);
        C.due("25", x.work(23, 25), OUTSIDE);
        C.due("a 25th ask", x.work(24, 1), UNKNOWN);
    }

    private static void withoutRoom() {
        PageDesks x = new PageDesks();
        C.due("misses", x.misses(0, 1), UNKNOWN);
        C.due("odd", x.odd(0), UNKNOWN);
        C.due("need", x.need(0, 0), UNKNOWN);
        C.due("fewest", x.fewest(1), STATE);
        C.due("latest", x.latest(1, 0), UNKNOWN);
        C.due("depth", x.depth(0), UNKNOWN);
        C.due("work", x.work(0, 1), UNKNOWN);
    }

    /** A row that begins and ends with one number, with another in all places between. */
    private static long[] row(int length, long between, long ends) {
        long[] row = new long[length];
        Arrays.fill(row, between);
        row[0] = ends;
        row[length - 1] = ends;
        return row;
    }
}
