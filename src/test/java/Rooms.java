import java.util.function.IntToLongFunction;

/** Rooms and sheets for tests. */
final class Rooms {
    private Rooms() {
    }

    /** A new object with a room by a text, told on sheet 3. */
    static PageDesks of(String text) {
        PageDesks x = new PageDesks();
        int desks = take(x, text);
        if (desks < 1) {
            throw new IllegalArgumentException(text + " is no text: " + desks);
        }
        return x;
    }

    /** What room answers to a text on sheet 3, as ints. */
    static int take(PageDesks x, String text) {
        int[] codes = text.chars().toArray();
        fill(x, 3, 2, codes);
        return x.room(3, 2, 0, codes.length);
    }

    static void fill(PageDesks x, int sheet, int lane, int... cells) {
        if (x.sheet(sheet, lane, cells.length) != 1) {
            throw new IllegalStateException("no sheet " + sheet);
        }
        for (int i = 0; i < cells.length; i++) {
            if (x.put(sheet, i, cells[i]) != 1) {
                throw new IllegalStateException("no cell " + i);
            }
        }
    }

    /** The answers of a call for from .. to. */
    static long[] each(int from, int to, IntToLongFunction call) {
        long[] answers = new long[to - from + 1];
        for (int i = from; i <= to; i++) {
            answers[i - from] = call.applyAsLong(i);
        }
        return answers;
    }
}
