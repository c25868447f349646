import java.util.ArrayList;
import java.util.List;
import java.util.Random;

/** Rows of random calls, always the same ones, on new objects: each answer is the model's. */
public final class ModelTest {
    private static final int RUNS = 1500, CALLS = 512;
    private static final String[] NAMES = {
        "room", "ofDesk", "lies", "line", "build", "come", "anew", "ask", "drop", "tale", "misses", "odd", "need",
        "fewest", "latest", "depth", "work", "reading", "back", "sizes", "kinds", "odds", "sheet", "lose", "put",
        "cell", "copy", "tell", "tally", "as", "trace", "fault", "many"
    };
    private static final int[] FAR = {
        Integer.MIN_VALUE, Integer.MIN_VALUE + 1, -129, -2, 8, 25, 26, 59, 60, 61, 97, 128, 300, 70001,
        Integer.MAX_VALUE - 1, Integer.MAX_VALUE
    };

    private final Random random;
    private final Check check;
    private final PageDesks x = new PageDesks();
    private final Model model = new Model();
    private final List<String> calls = new ArrayList<>();
    private final int wildness;

    private ModelTest(Random random, Check check) {
        this.random = random;
        this.check = check;
        this.wildness = 4 + random.nextInt(40);
    }

    public static void main(String[] args) {
        Check check = new Check("ModelTest");
        Random random = new Random(20261117);
        for (int run = 0; run < RUNS; run++) {
            new ModelTest(random, check).run(run);
        }
        check.end();
    }

    private void run(int number) {
        while (calls.size() < CALLS) {
            if (random.nextInt(60) == 0 || calls.isEmpty()) {
                tellText();
            }
            if (random.nextInt(30) == 0) {
                tellPages();
            }
            if (!same(NAMES[random.nextInt(NAMES.length)])) {
                System.out.println("run " + number + ": " + calls);
                return;
            }
        }
    }

    private void tellText() {
        StringBuilder text = new StringBuilder("d");
        int desks = 1 + random.nextInt(4);
        for (int k = 0; k < desks; k++) {
            text.append(';').append("qcr".charAt(random.nextInt(3))).append((char) ('1' + random.nextInt(5)));
        }
        text.append(',');
        int asks = 1 + random.nextInt(24);
        int pages = 1 + random.nextInt(8);
        for (int i = 0; i < asks; i++) {
            text.append((char) ('a' + random.nextInt(pages)));
        }
        if (random.nextInt(4) == 0) {
            text.setCharAt(random.nextInt(text.length()), "dqcr;,ah150i`?".charAt(random.nextInt(14)));
        }
        if (random.nextInt(6) == 0) {
            text.setLength(random.nextInt(text.length()));
        }
        int sheet = random.nextInt(4);
        int lane = random.nextInt(3);
        same("sheet", sheet, lane, text.length());
        for (int i = 0; i < text.length(); i++) {
            same("put", sheet, i, text.charAt(i));
        }
        same("room", sheet, lane, 0, text.length());
    }

    private void tellPages() {
        int sheet = random.nextInt(4);
        int lane = random.nextInt(3);
        int n = random.nextInt(22);
        same("sheet", sheet, lane, n);
        for (int i = 0; i < n; i++) {
            same("put", sheet, i, random.nextInt(random.nextInt(8) == 0 ? 9 : 8));
        }
        for (int k = 0; k < 4; k++) {
            for (int what = 0; what < 5; what++) {
                same("tale", sheet, lane, random.nextInt(n + 1), random.nextInt(n + 1), k, what);
            }
        }
    }

    /** A number that is mostly as told. */
    private int about(int least, int most) {
        if (random.nextInt(wildness) == 0) {
            return random.nextBoolean() ? FAR[random.nextInt(FAR.length)] : random.nextBoolean() ? least - 1 : most + 1;
        }
        return least + random.nextInt(most - least + 1);
    }

    private boolean same(String name) {
        switch (name) {
            case "room": return random.nextInt(4) != 0 || same(name, about(0, 3), about(0, 2), about(0, 9), about(0, 60));
            case "ofDesk": return same(name, about(0, 3), about(0, 5));
            case "lies": return same(name, about(0, 3), about(0, 4));
            case "line": return same(name, about(0, 23));
            case "build": return same(name, about(0, 3), about(1, 5));
            case "come": return same(name, random.nextInt(6) == 0 ? about(1, 24) : about(1, 3));
            case "anew": return random.nextInt(5) != 0 || same(name, new int[0]);
            case "ask": return same(name, about(0, 7));
            case "tale": return same(name, about(0, 3), about(0, 2), about(0, 20), about(0, 20), about(0, 3), about(0, 4));
            case "misses": return same(name, about(0, 3), about(1, 8));
            case "need": return same(name, about(0, 3), about(0, 24));
            case "fewest": return same(name, about(1, 8));
            case "latest": return same(name, about(1, 8), about(0, 23));
            case "depth": return same(name, about(0, 23));
            case "work": return same(name, about(0, 23), about(1, 24));
            case "reading": return same(name, about(0, 3), about(0, 23), about(0, 1));
            case "back": return same(name, about(0, 8));
            case "odds": return same(name, about(0, 3), about(0, 3), about(0, 1));
            case "sheet": return random.nextInt(4) != 0 || same(name, about(0, 3), about(0, 2), about(0, 60));
            case "lose": return random.nextInt(4) != 0 || same(name, about(0, 3));
            case "put": return same(name, about(0, 3), about(0, 59), random.nextBoolean() ? random.nextInt() : about(0, 7));
            case "cell": return same(name, about(0, 3), about(0, 59), about(0, 2));
            case "copy": return same(name, about(0, 3), about(0, 20), about(0, 3), about(0, 20), about(0, 20));
            case "as": return same(name, about(0, 3), about(0, 2));
            case "many": return same(name, about(0, 4));
            case "odd", "sizes", "kinds", "tell", "tally": return same(name, about(0, 3));
            default: return same(name, new int[0]);
        }
    }

    /** What comes behind the last call that the document speaks of is left out. */
    private boolean same(String name, int... numbers) {
        if (calls.size() == CALLS) {
            return true;
        }
        String call = Calls.told(name, numbers);
        calls.add(call);
        long got = Calls.of(x, name, numbers);
        long want = Calls.of(model, name, numbers);
        check.due(call, got, want);
        return got == want;
    }
}
