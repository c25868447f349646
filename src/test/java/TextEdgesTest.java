/** Promise 2, and the first part of the terms: where a text ends, is too long, or goes wrong. */
public final class TextEdgesTest {
    private static final Check C = new Check("TextEdgesTest");
    private static final String LONGEST = "d;q1;c2;r3;q5,abcdefghhgfedcbaabcdefgh";
    private static final int UP_TO_COMMA = LONGEST.indexOf(',') + 1;

    public static void main(String[] args) {
        emptyText();
        endsTooSoon();
        everyCodeInEveryPlace();
        codesThatAreOthersCut();
        howManyDesks();
        howManyAsks();
        framesOfADesk();
        firstOfSeveralFaults();
        placesAreOfTheText();
        wholeSheet();
        behindAFaultNothingIsChanged();
        takenTextMakesAllAnew();
        leastAfterMost();
        manyRooms();
        C.end();
    }

    private static void emptyText() {
        PageDesks x = new PageDesks();
        C.due("no codes", Rooms.take(x, ""), -100);
        C.due("no codes, fault()", x.fault(), 0);
        x.sheet(0, 1, 60);
        C.due("no codes of a row that has some", x.room(0, 1, 0, 0), -100);
        C.due("no codes at its end", x.room(0, 1, 60, 0), -100);
        C.due("no codes beyond its end", x.room(0, 1, 61, 0), -13);
        C.due("no codes ahead of it", x.room(0, 1, -1, 0), -13);
    }

    /** How many codes there are, if it just ends too soon. */
    private static void endsTooSoon() {
        for (int length = 0; length <= LONGEST.length(); length++) {
            long due = length <= UP_TO_COMMA ? -100 - length : 4;
            C.due("the first " + length + " codes", Rooms.take(new PageDesks(), LONGEST.substring(0, length)), due);
        }
        for (String text : new String[] {"d;q1;", "d;q1;r", "d;q1;r2", "d;q1;r2;", "d;q1;r2;c3;q4"}) {
            C.due(text + " ends too soon", Rooms.take(new PageDesks(), text), -100 - text.length());
        }
    }

    /** With each code of a byte in each place of a text: it goes on, or the place is the first fault. */
    private static void everyCodeInEveryPlace() {
        String[] heads = {"", "d", "d;", "d;q", "d;q1", "d;q1,", "d;q1,a", "d;q1;c2;r3;q4", "d;q1;", "d;q1;r"};
        String[] goOn = {"d", ";", "qcr", "12345", ";,", "abcdefgh", "abcdefgh", ",", "qcr", "12345"};
        for (int h = 0; h < heads.length; h++) {
            for (int code = -128; code < 128; code++) {
                boolean goesOn = code >= 0 && goOn[h].indexOf(code) >= 0;
                long answer = take(heads[h], code);
                int length = heads[h].length();
                boolean isTaken = goesOn && heads[h].contains(",");
                long due = isTaken ? 1 : -100 - (goesOn ? length + 1 : length);
                C.due(heads[h] + " and code " + code, answer, due);
            }
        }
    }

    private static long take(String head, int code) {
        PageDesks x = new PageDesks();
        x.sheet(0, 0, head.length() + 1);
        for (int i = 0; i < head.length(); i++) {
            x.put(0, i, head.charAt(i));
        }
        x.put(0, head.length(), code);
        return x.room(0, 0, 0, head.length() + 1);
    }

    /** A code is what its cell has: in a row of a wider lane another one, in a byte the one that it is cut to. */
    private static void codesThatAreOthersCut() {
        int[] text = {'d', ';', 'c', '5', ',', 'h'};
        for (int place = 0; place < text.length; place++) {
            for (int more : new int[] {256, -256, 65536, -65536, Integer.MIN_VALUE}) {
                int[] other = text.clone();
                other[place] += more;
                for (int lane = 0; lane < 3; lane++) {
                    PageDesks x = new PageDesks();
                    Rooms.fill(x, 1, lane, other);
                    boolean isSame = lane == 0 || lane == 1 && Math.abs((long) more) >= 65536;
                    C.due("lane " + lane + ", place " + place + ", " + more + " more",
                        x.room(1, lane, 0, 6), isSame ? 1 : -100 - place);
                }
            }
        }
    }

    private static void howManyDesks() {
        C.due("no desk", Rooms.take(new PageDesks(), "d,a"), -101);
        C.due("one", Rooms.take(new PageDesks(), "d;r5,a"), 1);
        C.due("four", Rooms.take(new PageDesks(), "d;r5;r5;r5;r5,a"), 4);
        C.due("the ; of a fifth", Rooms.take(new PageDesks(), "d;r5;r5;r5;r5;r5,a"), -113);
        C.due("the ; of a fifth at the end", Rooms.take(new PageDesks(), "d;r5;r5;r5;r5;"), -113);
        C.due("four, and it ends too soon", Rooms.take(new PageDesks(), "d;r5;r5;r5;r5"), -113);
    }

    private static void howManyAsks() {
        String head = "d";
        for (int desks = 1; desks <= 4; desks++) {
            head = head + ";c3";
            PageDesks x = new PageDesks();
            C.due(desks + " desks, no ask", Rooms.take(x, head + ","), -100 - head.length() - 1);
            C.due(desks + " desks, one ask", Rooms.take(x, head + ",h"), desks);
            C.due(desks + " desks, 24 asks", Rooms.take(x, head + "," + "h".repeat(24)), desks);
            C.due("24 of them", x.many(1), 24);
            C.due(desks + " desks, 25 asks", Rooms.take(x, head + "," + "a".repeat(25)), -100 - head.length() - 25);
            C.due(desks + " desks, 26 asks", Rooms.take(x, head + "," + "a".repeat(26)), -100 - head.length() - 25);
            C.due("they stay", x.line(23), 7);
        }
    }

    private static void framesOfADesk() {
        for (int digit = 0; digit <= 9; digit++) {
            PageDesks x = new PageDesks();
            boolean isGood = digit >= 1 && digit <= 5;
            C.due("the first of " + digit, Rooms.take(x, "d;q" + digit + ",a"), isGood ? 1 : -103);
            C.due("the last of " + digit, Rooms.take(x, "d;q1;q1;q1;r" + digit + ",a"), isGood ? 4 : -112);
            C.due("has " + digit, x.ofDesk(3, 1), isGood ? digit : PageDesks.UNKNOWN);
        }
    }

    private static void firstOfSeveralFaults() {
        PageDesks x = new PageDesks();
        C.due("kind and frames", Rooms.take(x, "d;x9,a"), -102);
        C.due("frames and a missing comma", Rooms.take(x, "d;q9a"), -103);
        C.due("a bad ask ahead of a 25th", Rooms.take(x, "d;q1,aaaai" + "a".repeat(30)), -109);
        C.due("a fault ahead of an end too soon", Rooms.take(x, "d;q1;x"), -105);
        C.due("the 25th ahead of a bad one", Rooms.take(x, "d;q1," + "a".repeat(24) + "?"), -129);
    }

    private static void placesAreOfTheText() {
        PageDesks x = new PageDesks();
        Rooms.fill(x, 0, 1, 1, 2, 'd', ';', 'q', '5', ',', 'a', 'b', ';', 'd');
        C.due("from 2 on", x.room(0, 1, 2, 7), 1);
        C.due("two asks", x.many(1), 2);
        C.due("one less", x.room(0, 1, 2, 6), 1);
        C.due("one ask", x.many(1), 1);
        C.due("one more", x.room(0, 1, 2, 8), -107);
        C.due("from 1 on", x.room(0, 1, 1, 7), -100);
        C.due("from 3 on", x.room(0, 1, 3, 7), -100);
        C.due("the last cell", x.room(0, 1, 10, 1), -101);
        C.due("the last cell and one beyond", x.room(0, 1, 10, 2), -13);
    }

    private static void wholeSheet() {
        PageDesks x = new PageDesks();
        x.sheet(0, 0, 60);
        int from = 60 - LONGEST.length();
        for (int i = 0; i < LONGEST.length(); i++) {
            x.put(0, from + i, LONGEST.charAt(i));
        }
        C.due("60 cells that are 0", x.room(0, 0, 0, 60), -100);
        C.due("the longest text, up to the last cell", x.room(0, 0, from, LONGEST.length()), 4);
        C.due("one cell beyond", x.room(0, 0, from, LONGEST.length() + 1), -13);
        C.due("all from 1 on and one beyond", x.room(0, 0, 1, 60), -13);
        C.due("i and n, whose sum wraps", x.room(0, 0, 60, Integer.MAX_VALUE), -13);
        C.due("i and n, both far beyond", x.room(0, 0, Integer.MAX_VALUE, Integer.MAX_VALUE), -13);
        C.due("i far below, n far above", x.room(0, 0, Integer.MIN_VALUE, Integer.MAX_VALUE), -13);
        C.due("i far below, n far below", x.room(0, 0, Integer.MIN_VALUE, Integer.MIN_VALUE), -14);
        C.due("the room stays", x.many(1), 24);
    }

    /** Wherever a text goes wrong, the room that there was is as it was. */
    private static void behindAFaultNothingIsChanged() {
        String other = "d;r1;r1;r1;r1,hhhhhhhhhhhhhhhhhhhhhhhh";
        for (int place = 0; place <= other.length(); place++) {
            PageDesks x = World.BUSY.make();
            PageDesks twin = World.BUSY.make();
            String wrong = other.substring(0, place) + "?";
            C.due("wrong at " + place, Rooms.take(x, wrong), -100 - place);
            Rooms.fill(twin, 3, 2, wrong.chars().toArray());
            C.due("nothing is changed", World.seen(x).equals(World.seen(twin)) ? 1 : 0, 1);
        }
    }

    /** No ask has come, no readings; what has nothing to do with a room stays. */
    private static void takenTextMakesAllAnew() {
        PageDesks x = World.FULL.make();
        int trace = x.trace();
        C.due("the same text", Rooms.take(x, "d;q5;c5;r5;c5,abcdefghabcdefghabcdefgh"), 4);
        C.dueRow("many", Rooms.each(0, 4, x::many), 4, 24, 0, 8, 0);
        for (int k = 0; k < 4; k++) {
            int desk = k;
            C.dueRow("desk " + k, Rooms.each(2, 5, w -> x.ofDesk(desk, w)), 0, 0, PageDesks.NONE, 0);
            C.due("nothing lies there", x.lies(k, 0), PageDesks.NONE);
            C.due("sizes", x.sizes(k), 62);
        }
        C.due("TRACE stays", x.trace(), trace);
        C.dueRow("the sheets stay", Rooms.each(0, 2, k -> x.cell(k, 59, k)), 7, 6, 5);
    }

    private static void leastAfterMost() {
        PageDesks x = World.FULL.make();
        C.due("the least text", Rooms.take(x, "d;c1,a"), 1);
        C.dueRow("many", Rooms.each(0, 4, x::many), 1, 1, 0, 1, 0);
        C.dueRow("no desk more", Rooms.each(0, 4, k -> x.ofDesk(k, 0)), 1, -1, -1, -1, -1);
        C.dueRow("no ask more", Rooms.each(0, 2, x::line), 0, -1, -1);
        C.due("not the 24th either", x.line(23), -1);
        C.due("the first comes", x.come(1), 1);
        C.due("none behind it", x.come(1), PageDesks.STATE);
    }

    /** As many texts as an object's calls are enough for: the last is taken like the first. */
    private static void manyRooms() {
        PageDesks x = new PageDesks();
        Rooms.fill(x, 0, 0, 'd', ';', 'q', '2', ',', 'a', 'b', 'a');
        for (int n = 0; n < 250; n++) {
            C.due("room " + n, x.room(0, 0, 0, 8), 1);
            C.due("its asks come", x.come(3), 2);
        }
    }
}
