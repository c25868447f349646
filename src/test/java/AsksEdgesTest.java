/** Promises 7 to 11: the first and the last ask, a full line, the only ask, tales of nothing and of twenty pages. */
public final class AsksEdgesTest {
    private static final Check C = new Check("AsksEdgesTest");
    private static final int OUTSIDE = PageDesks.OUTSIDE, STATE = PageDesks.STATE, FULL = PageDesks.FULL;
    private static final int UNKNOWN = PageDesks.UNKNOWN, NONE = PageDesks.NONE;
    private static final String ROUND = "abcdefghabcdefghabcdefgh";

    public static void main(String[] args) {
        comeOneByOne();
        comeAllAtOnce();
        comeOneMoreThanThereAre();
        comeBehindAnAsk();
        comeWithoutMiss();
        anewAtTheEnds();
        askUpToTheLast();
        askFirstAndLastPage();
        askLeavesWhatCame();
        dropDownToTheFirst();
        dropWhatHasCome();
        dropMakesRoom();
        dropTakesReadingsBack();
        taleOfNothing();
        taleOfTwenty();
        taleOfCellsThatAreNoPages();
        taleFirstMiss();
        taleOnFullAndEmptyDesks();
        taleChangesNothing();
        C.end();
    }

    private static void comeOneByOne() {
        PageDesks x = Rooms.of("d;q5;c5;r5;q1," + ROUND);
        for (int came = 1; came <= 24; came++) {
            C.due("ask " + came, x.come(1), 4);
            C.due("so many have come", x.many(2), came);
        }
        C.due("a 25th", x.come(1), STATE);
        C.due("24 have come", x.many(2), 24);
    }

    private static void comeAllAtOnce() {
        PageDesks x = Rooms.of("d;q5;c5;r5;q1," + ROUND);
        C.due("24 at once: all desks miss all", x.come(24), 96);
        C.due("24 have come", x.many(2), 24);
        C.due("one more", x.come(1), STATE);
        PageDesks y = Rooms.of("d;q1,c");
        C.due("the only one", y.come(1), 1);
        C.due("no other", y.come(1), STATE);
    }

    private static void comeOneMoreThanThereAre() {
        PageDesks x = Rooms.of("d;q1,abcde");
        C.due("six of five", x.come(6), STATE);
        C.due("none has come", x.many(2), 0);
        C.due("nothing is missed", x.ofDesk(0, 3), 0);
        C.due("two", x.come(2), 2);
        C.due("four of three", x.come(4), STATE);
        C.due("two have come", x.many(2), 2);
        C.due("the rest", x.come(3), 3);
        C.due("24 of none", x.come(24), STATE);
        C.due("25 of none", x.come(25), OUTSIDE);
        C.due("0 of none", x.come(0), OUTSIDE);
    }

    private static void comeBehindAnAsk() {
        PageDesks x = Rooms.of("d;q1,a");
        x.come(1);
        C.due("none is left", x.come(1), STATE);
        C.due("one is put behind", x.ask(0), 2);
        C.due("two of one", x.come(2), STATE);
        C.due("it comes", x.come(1), 0);
        C.due("none is left again", x.come(1), STATE);
    }

    private static void comeWithoutMiss() {
        PageDesks x = Rooms.of("d;q1;c3;r5," + "g".repeat(24));
        C.due("the first on each", x.come(1), 3);
        C.due("no other", x.come(23), 0);
        C.dueRow("one miss each", Rooms.each(0, 2, k -> x.ofDesk(k, 3)), 1, 1, 1);
    }

    private static void anewAtTheEnds() {
        PageDesks x = Rooms.of("d;q1;c2," + ROUND);
        C.due("none had come", x.anew(), 0);
        x.come(24);
        C.due("all had come", x.anew(), 24);
        C.due("none had come again", x.anew(), 0);
        C.dueRow("many", Rooms.each(0, 4, x::many), 2, 24, 0, 8, 0);
        C.dueRow("nothing lies there", Rooms.each(0, 1, k -> x.ofDesk(k, 2)), 0, 0);
        C.due("all come again", x.come(24), 48);
        C.due("without a room", new PageDesks().anew(), STATE);
    }

    private static void askUpToTheLast() {
        PageDesks x = Rooms.of("d;q1,a");
        for (int n = 2; n <= 24; n++) {
            C.due("ask " + n, x.ask(7), n);
        }
        C.due("a 25th", x.ask(0), FULL);
        C.due("a 25th that is no page", x.ask(8), OUTSIDE);
        C.due("24 stay", x.many(1), 24);
        C.due("the last stays", x.line(23), 7);
        C.due("no 25th", x.line(24), UNKNOWN);
        C.due("all 24 come", x.come(24), 2);
        C.due("full all the same", x.ask(0), FULL);
        C.due("full behind a text of 24, too", Rooms.of("d;q1," + ROUND).ask(0), FULL);
        C.due("not behind a text of 23", Rooms.of("d;q1," + ROUND.substring(1)).ask(0), 24);
    }

    private static void askFirstAndLastPage() {
        PageDesks x = Rooms.of("d;q2,d");
        C.dueRow("pages", Rooms.each(-1, 8, x::ask), OUTSIDE, 2, 3, 4, 5, 6, 7, 8, 9, OUTSIDE);
        C.dueRow("behind one another", Rooms.each(0, 9, x::line), 3, 0, 1, 2, 3, 4, 5, 6, 7, UNKNOWN);
        C.due("far below", x.ask(Integer.MIN_VALUE), OUTSIDE);
        C.due("far above", x.ask(Integer.MAX_VALUE), OUTSIDE);
        C.due("without a room", new PageDesks().ask(0), STATE);
    }

    private static void askLeavesWhatCame() {
        PageDesks x = World.BUSY.make();
        C.due("a tenth", x.ask(6), 10);
        C.due("as many have come", x.many(2), 5);
        C.due("as many readings", x.many(4), 3);
        C.due("misses of the line", x.misses(0, 8), 6);
        C.due("misses so far", x.ofDesk(1, 3), 3);
    }

    private static void dropDownToTheFirst() {
        PageDesks x = Rooms.of("d;q1," + ROUND);
        for (int left = 23; left >= 1; left--) {
            C.due("page of ask " + left, x.drop(), left % 8);
            C.due("are left", x.many(1), left);
        }
        C.due("the only one", x.drop(), STATE);
        C.due("stays", x.many(1), 1);
        C.due("and comes", x.come(1), 1);
        C.due("the only one that has come", x.drop(), STATE);
        C.due("without a room", new PageDesks().drop(), STATE);
    }

    private static void dropWhatHasCome() {
        PageDesks x = Rooms.of("d;q2,abc");
        x.come(2);
        C.due("the last has not come", x.drop(), 2);
        C.due("now the last has", x.drop(), STATE);
        C.due("two are left", x.many(1), 2);
        C.due("two have come", x.many(2), 2);
        x.anew();
        C.due("none has come", x.drop(), 1);
        C.due("the only one has not come, but stays", x.drop(), STATE);
    }

    private static void dropMakesRoom() {
        PageDesks x = Rooms.of("d;q1," + ROUND);
        C.due("full", x.ask(0), FULL);
        C.due("the last goes", x.drop(), 7);
        C.due("another one", x.ask(0), 24);
        C.due("full again", x.ask(0), FULL);
        C.due("it is the last", x.line(23), 0);
    }

    private static void dropTakesReadingsBack() {
        PageDesks x = Rooms.of("d;q1,abc");
        for (int r = 0; r < 8; r++) {
            x.reading(0, 0, 0);
        }
        C.due("full", x.reading(0, 0, 0), FULL);
        C.due("the last ask goes", x.drop(), 2);
        C.due("no reading is left", x.many(4), 0);
        C.due("the first again", x.reading(0, 1, 1), 0);
        x.come(2);
        C.due("refused", x.drop(), STATE);
        C.due("a refused call takes none back", x.many(4), 1);
    }

    private static void taleOfNothing() {
        PageDesks x = World.BUSY.make();
        C.dueRow("queue as it is", tale(x, 6, 0, 0), 0, 3, 0, 0, NONE);
        C.dueRow("chance as it is", tale(x, 6, 0, 1), 0, 7, 2, 3, NONE);
        C.dueRow("recent as it is", tale(x, 0, 0, 2), 0, 7, NONE, 3, NONE);
        PageDesks y = World.LEAST.make();
        C.dueRow("of a row of no cells, on an empty desk", tale(y, 0, 0, 0), 0, 0, NONE, 0, NONE);
        C.due("from 1 on", y.tale(2, 2, 1, 0, 0, 0), -13);
    }

    private static void taleOfTwenty() {
        PageDesks x = Rooms.of("d;q1;c5;r5," + ROUND);
        x.come(24);
        x.sheet(2, 2, 60);
        for (int i = 0; i < 60; i++) {
            x.put(2, i, i < 40 ? 8 : i % 8);
        }
        C.dueRow("queue of one frame", tale(x, 40, 20, 0), 20, 8, 3, 0, 0);
        C.dueRow("chance of five", tale(x, 40, 20, 1), 20, 143, 7, 0, 0);
        C.dueRow("recent of five", tale(x, 40, 20, 2), 20, 143, 7, 0, 0);
        C.due("from 41 on", x.tale(2, 2, 41, 20, 0, 0), -13);
        C.due("21 of them", x.tale(2, 2, 39, 21, 0, 0), OUTSIDE);
    }

    private static void taleOfCellsThatAreNoPages() {
        PageDesks x = Rooms.of("d;q2,ab");
        Rooms.fill(x, 2, 2, -1, 0, 7, 8, 1, Integer.MIN_VALUE, 2, Integer.MAX_VALUE, 256);
        C.dueRow("cell by cell", Rooms.each(0, 8, i -> x.tale(2, 2, i, 1, 0, 0)),
            OUTSIDE, 1, 1, OUTSIDE, 1, OUTSIDE, 1, OUTSIDE, OUTSIDE);
        C.due("none of them", x.tale(2, 2, 0, 0, 0, 0), 0);
        C.due("up to the bad one", x.tale(2, 2, 1, 2, 0, 0), 2);
        C.due("the bad one last", x.tale(2, 2, 1, 3, 0, 0), OUTSIDE);
        C.due("the bad one first", x.tale(2, 2, 0, 3, 0, 0), OUTSIDE);
        C.due("beyond, and a bad one", x.tale(2, 2, 0, 10, 0, 0), -13);
        Rooms.fill(x, 0, 0, 256, 263, 264, 255);
        C.dueRow("cut to bytes", Rooms.each(0, 3, i -> x.tale(0, 0, i, 1, 0, 0)), 1, 1, OUTSIDE, OUTSIDE);
        Rooms.fill(x, 1, 1, 256, 65536, 65543, 65544);
        C.dueRow("cut to shorts", Rooms.each(0, 3, i -> x.tale(1, 1, i, 1, 0, 0)), OUTSIDE, 1, 1, OUTSIDE);
    }

    private static void taleFirstMiss() {
        PageDesks x = Rooms.of("d;q5,abcde");
        x.come(5);
        int[] pages = new int[20];
        pages[19] = 5;
        Rooms.fill(x, 2, 2, pages);
        C.due("the last of twenty", x.tale(2, 2, 0, 20, 0, 4), 19);
        C.due("none of nineteen", x.tale(2, 2, 0, 19, 0, 4), NONE);
        C.due("the only one", x.tale(2, 2, 19, 1, 0, 4), 0);
        C.due("none of none", x.tale(2, 2, 19, 0, 0, 4), NONE);
        C.due("numbers are the tale's", x.tale(2, 2, 17, 3, 0, 4), 2);
    }

    private static void taleOnFullAndEmptyDesks() {
        PageDesks x = Rooms.of("d;q2;c2;r2,ab");
        Rooms.fill(x, 2, 2, 0, 1, 0, 1, 2, 0);
        C.dueRow("queue, up to its last free frame", tale(x, 0, 1, 0), 1, 1, NONE, 0, 0);
        C.dueRow("queue, full", tale(x, 0, 2, 0), 2, 3, 0, 0, 0);
        C.dueRow("chance, all used", tale(x, 0, 4, 1), 2, 3, 0, 3, 0);
        C.dueRow("chance, a miss with all used", tale(x, 0, 5, 1), 3, 6, 1, 0, 0);
        C.dueRow("recent, a miss with all used", tale(x, 0, 5, 2), 3, 6, 1, 2, 0);
        x.come(2);
        C.dueRow("queue, no miss", tale(x, 0, 4, 0), 0, 3, 0, 0, NONE);
        C.dueRow("chance, a miss with all used behind what came", tale(x, 0, 5, 1), 1, 6, 1, 0, 4);
        C.dueRow("recent, a miss with all used behind what came", tale(x, 0, 5, 2), 1, 6, 1, 2, 4);
    }

    private static void taleChangesNothing() {
        for (World world : new World[] {World.LEAST, World.BUSY, World.FULL}) {
            PageDesks x = world.make();
            for (int k = 0; k < world.desks; k++) {
                tale(x, 0, Math.min(20, world.cells), k);
            }
            C.due(world + " is as it was", World.seen(x).equals(World.seen(world.make())) ? 1 : 0, 1);
        }
    }

    /** All five answers of a tale of cells of sheet 2, of ints. */
    private static long[] tale(PageDesks x, int i, int n, int k) {
        return Rooms.each(0, 4, w -> x.tale(2, 2, i, n, k, w));
    }
}
