/** Promises 7 to 11: asks that come, asks that are put behind and taken away, tales. */
public final class AsksTest {
    private static final Check C = new Check("AsksTest");
    private static final int UNKNOWN = PageDesks.UNKNOWN, OUTSIDE = PageDesks.OUTSIDE, STATE = PageDesks.STATE;
    private static final int FULL = PageDesks.FULL, NONE = PageDesks.NONE;

    public static void main(String[] args) {
        come();
        anew();
        ask();
        drop();
        taleAnswers();
        taleFromWhatLies();
        taleRefusals();
        taleFaults();
        C.end();
    }

    private static void come() {
        PageDesks x = Rooms.of("d;q2;c2;r2,abacadb");
        C.due("all seven and one more", x.come(8), STATE);
        C.due("a miss on each", x.come(1), 3);
        C.due("another, and a hit on each", x.come(2), 3);
        C.due("c on all, a on the queue alone, d on all", x.come(3), 7);
        C.due("two where there is one", x.come(2), STATE);
        C.due("three came", x.many(2), 6);
        C.due("the last", x.come(1), 3);
        C.due("none is left", x.come(1), STATE);
        C.due("none", x.come(0), OUTSIDE);
        C.due("below", x.come(-1), OUTSIDE);
        C.due("25", x.come(25), OUTSIDE);
        C.due("24", x.come(24), STATE);
        C.due("24 without a room", new PageDesks().come(24), STATE);
        C.due("25 without a room", new PageDesks().come(25), OUTSIDE);
        C.due("0 without a room", new PageDesks().come(0), OUTSIDE);
        C.due("all 24 at once", Rooms.of("d;q5,abcdeabcdeabcdeabcdeabcd").come(24), 5);
    }

    private static void anew() {
        PageDesks x = Rooms.of("d;q2;c2,aab");
        C.due("none had come", x.anew(), 0);
        x.come(2);
        x.reading(0, 0, 0);
        x.build(1, 4);
        C.due("two had come", x.anew(), 2);
        C.dueRow("many", Rooms.each(0, 4, x::many), 2, 3, 0, 2, 1);
        C.dueRow("the queue is empty", Rooms.each(0, 5, w -> x.ofDesk(0, w)), 0, 2, 0, 0, NONE, 0);
        C.dueRow("the chance is empty and keeps its frames", Rooms.each(0, 5, w -> x.ofDesk(1, w)), 1, 4, 0, 0, NONE, 0);
        C.due("nothing lies there", x.lies(1, 0), NONE);
        C.due("they come again", x.come(3), 4);
        C.due("without a room", new PageDesks().anew(), STATE);
    }

    private static void ask() {
        PageDesks x = Rooms.of("d;q2,a");
        x.come(1);
        x.reading(0, 0, 0);
        C.due("a second one", x.ask(7), 2);
        C.due("its page", x.line(1), 7);
        C.due("it has not come", x.many(2), 1);
        C.due("readings stay", x.many(4), 1);
        C.due("it comes", x.come(1), 1);
        C.due("page below", x.ask(-1), OUTSIDE);
        C.due("page above", x.ask(8), OUTSIDE);
        for (int n = 3; n <= 24; n++) {
            C.due("ask " + n, x.ask(n % 8), n);
        }
        C.due("a 25th", x.ask(0), FULL);
        C.due("OUTSIDE ahead of FULL", x.ask(8), OUTSIDE);
        C.due("there are 24", x.many(1), 24);
        C.due("without a room", new PageDesks().ask(0), STATE);
        C.due("without a room, ahead of the page", new PageDesks().ask(8), STATE);
    }

    private static void drop() {
        PageDesks x = Rooms.of("d;q2,abhc");
        x.reading(0, 0, 0);
        x.reading(0, 3, 1);
        x.come(1);
        C.due("c goes", x.drop(), 2);
        C.due("all readings are taken back", x.many(4), 0);
        C.due("sizes without readings", x.sizes(0), 62);
        C.due("three are left", x.many(1), 3);
        C.due("the fourth is unknown", x.line(3), UNKNOWN);
        x.reading(0, 0, 0);
        C.due("h goes", x.drop(), 7);
        C.due("readings of others are taken back, too", x.many(4), 0);
        C.due("b comes", x.come(1), 1);
        x.reading(0, 0, 0);
        C.due("b has come", x.drop(), STATE);
        C.due("readings stay", x.many(4), 1);
        x.anew();
        C.due("b goes", x.drop(), 1);
        C.due("a is the only one", x.drop(), STATE);
        C.due("it stays", x.line(0), 0);
        C.due("another is put behind", x.ask(5), 2);
        C.due("and goes", x.drop(), 5);
        C.due("without a room", new PageDesks().drop(), STATE);
    }

    private static void taleAnswers() {
        PageDesks x = Rooms.of("d;q2;c2;r2,abacadb");
        Rooms.fill(x, 0, 0, 9, 0, 1, 0, 2, 0, 3, 1);
        C.dueRow("queue, abacadb", Rooms.each(0, 4, w -> x.tale(0, 0, 1, 7, 0, w)), 6, 10, 3, 0, 0);
        C.dueRow("chance, abacadb", Rooms.each(0, 4, w -> x.tale(0, 0, 1, 7, 1, w)), 5, 10, 3, 0, 0);
        C.dueRow("recent, abacadb", Rooms.each(0, 4, w -> x.tale(0, 0, 1, 7, 2, w)), 5, 10, 3, 0, 0);
        C.dueRow("chance, aba", Rooms.each(0, 4, w -> x.tale(0, 0, 1, 3, 1, w)), 2, 3, 1, 1, 0);
        C.dueRow("recent, a alone", Rooms.each(0, 4, w -> x.tale(0, 0, 1, 1, 2, w)), 1, 1, NONE, 0, 0);
        C.dueRow("queue, nothing", Rooms.each(0, 4, w -> x.tale(0, 0, 8, 0, 0, w)), 0, 0, NONE, 0, NONE);
    }

    private static void taleFromWhatLies() {
        PageDesks x = Rooms.of("d;q2;c2;r2,abacadb");
        x.come(3);
        Rooms.fill(x, 1, 1, 1, 0, 7, 1);
        C.dueRow("queue", Rooms.each(0, 4, w -> x.tale(1, 1, 0, 3, 0, w)), 1, 130, 1, 0, 2);
        C.dueRow("chance", Rooms.each(0, 4, w -> x.tale(1, 1, 0, 3, 1, w)), 1, 130, 1, 0, 2);
        C.dueRow("recent", Rooms.each(0, 4, w -> x.tale(1, 1, 0, 3, 2, w)), 1, 129, 0, 1, 2);
        C.dueRow("recent, b too", Rooms.each(0, 4, w -> x.tale(1, 1, 0, 4, 2, w)), 2, 130, 7, 0, 2);
        C.dueRow("chance, h alone", Rooms.each(0, 4, w -> x.tale(1, 1, 2, 1, 1, w)), 1, 129, 0, 0, 0);
        C.dueRow("recent, h alone", Rooms.each(0, 4, w -> x.tale(1, 1, 2, 1, 2, w)), 1, 129, 0, 1, 0);
        C.dueRow("hits alone", Rooms.each(0, 4, w -> x.tale(1, 1, 0, 2, 2, w)), 0, 3, 1, 3, NONE);
        C.dueRow("queue stays", Rooms.each(0, 5, w -> x.ofDesk(0, w)), 0, 2, 3, 2, 0, 0);
        C.dueRow("chance stays", Rooms.each(0, 5, w -> x.ofDesk(1, w)), 1, 2, 3, 2, 1, 1);
        C.dueRow("recent stays", Rooms.each(0, 5, w -> x.ofDesk(2, w)), 2, 2, 3, 2, 1, 1);
        C.dueRow("recent's row stays", Rooms.each(0, 4, p -> x.lies(2, p)), 1, 0, NONE, NONE, NONE);
        C.due("how many came stays", x.many(2), 3);
    }

    private static void taleRefusals() {
        PageDesks x = Rooms.of("d;q2,ab");
        x.sheet(0, 2, 60);
        C.due("20 pages", x.tale(0, 2, 40, 20, 0, 0), 1);
        C.due("21 pages", x.tale(0, 2, 0, 21, 0, 0), OUTSIDE);
        C.due("n below 0 is no SIZE", x.tale(0, 2, 0, -1, 0, 0), OUTSIDE);
        C.due("lane below", x.tale(0, -1, 0, 1, 0, 0), OUTSIDE);
        C.due("lane above", x.tale(0, 3, 0, 1, 0, 0), OUTSIDE);
        C.due("what below", x.tale(0, 2, 0, 1, 0, -1), OUTSIDE);
        C.due("what above, ahead of faults", x.tale(1, 2, -1, 1, 0, 5), OUTSIDE);
        C.due("sheet below", x.tale(-1, 2, 0, 1, 0, 0), UNKNOWN);
        C.due("sheet above, ahead of OUTSIDE", x.tale(4, 3, 0, 21, 0, 5), UNKNOWN);
        C.due("desk below", x.tale(0, 2, 0, 1, -1, 0), UNKNOWN);
        C.due("desk above, ahead of OUTSIDE", x.tale(0, 3, 0, 21, 1, 5), UNKNOWN);
        x.put(0, 3, 8);
        x.put(0, 4, -1);
        C.due("a cell above", x.tale(0, 2, 2, 2, 0, 0), OUTSIDE);
        C.due("a cell below", x.tale(0, 2, 4, 1, 0, 0), OUTSIDE);
        C.due("the cells beside", x.tale(0, 2, 0, 3, 0, 0), 1);
        C.due("without a room", new PageDesks().tale(0, 0, 0, 0, 0, 0), UNKNOWN);
    }

    private static void taleFaults() {
        PageDesks x = Rooms.of("d;q2,ab");
        Rooms.fill(x, 0, 1, 0, 9);
        C.due("CAST ahead of INDEX", x.tale(0, 2, -1, 1, 0, 0), -12);
        C.due("CAST", x.fault(), 2);
        C.due("NULL, no CAST, ahead of INDEX", x.tale(2, 0, -1, 1, 0, 0), -11);
        C.due("NULL", x.fault(), 1);
        C.due("INDEX ahead of a bad cell", x.tale(0, 1, 1, 2, 0, 0), -13);
        C.due("INDEX", x.fault(), 3);
        C.due("INDEX, none taken", x.tale(0, 1, 3, 0, 0, 0), -13);
        C.due("INDEX, below, none taken", x.tale(0, 1, -1, 0, 0, 0), -13);
        C.due("INDEX, far beyond", x.tale(0, 1, Integer.MAX_VALUE, 20, 0, 0), -13);
        C.due("the end, none taken", x.tale(0, 1, 2, 0, 0, 0), 0);
        C.due("no fault", x.fault(), 0);
        x.tale(0, 2, 0, 0, 0, 0);
        x.tale(0, 1, 1, 1, 0, 0);
        C.due("a bad cell is no fault", x.fault(), 0);
        x.tale(0, 2, 0, 0, 0, 0);
        x.tale(0, 1, 0, 1, 7, 0);
        C.due("UNKNOWN is no fault", x.fault(), 0);
        x.tale(0, 2, 0, 0, 0, 0);
        x.tale(0, 1, 0, 1, 0, 7);
        C.due("OUTSIDE is no fault", x.fault(), 0);
    }
}
