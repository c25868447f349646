import java.util.ArrayList;
import java.util.List;
import java.util.Random;

/** Rows of random calls, always the same ones, on new objects: each answer is the model's. */
public final class ModelTest {
    private static final int RUNS = 1500, CALLS = 512;
    private static final String[] NAMES = {
        "room", "ofDesk", "lies", "line", "build", "come", "anew", "ask", "drop", "tale", "misses", "odd", "need",
        "fewest", "latest", "depth", "work", "reading", "back", "sizes", "kinds", "odds", "sheet", "lose", "put",
        "cell", "copy", "tell", "tally", "as", "trace", "fault", "many"
    };
    private static final int[] FAR = {
        Integer.MIN_VALUE, Integer.MIN_VALUE + 1, -129, -2, 8, 25, 26, 59, 60, 61, 97, 128, 300, 70001,
        Integer.MAX_VALUE - 1, Integer.MAX_VALUE
    };

    private final Random random;
    private final Check check;
    private final PageDesks x = new PageDesks();
    private final Model model = new Model();
    private final List<String> calls = new ArrayList<>();
    private final int wildness;

    private ModelTest(Random random, Check check) {
        this.random = random;
        this.check = check;
        this.wildness = 4 + random.nextInt(40);
    }

    public static void main(String[] args) {
        Check check = new Check("ModelTest");
        Random random = new Random(20261117);
        for (int run = 0; run < RUNS; run++) {
            new ModelTest(random, check).run(run);
        }
        check.end();
    }

    private void run(int number) {
        while (calls.size() < CALLS) {
            if (random.nextInt(60) == 0 || calls.isEmpty()) {
                tellText();
            }
            if (calls.size() < CALLS && random.nextInt(30) == 0) {
                tellPages();
            }
            if (calls.size() < CALLS && !same(NAMES[random.nextInt(NAMES.length)])) {
                System.out.println("run " + number + ": " + calls);
                return;
            }
        }
    }

    private void tellText() {
        StringBuilder text = new StringBuilder("d");
        int desks = 1 + random.nextInt(4);
        for (int k = 0; k < desks; k++) {
            text.append(';').append("qcr".charAt(random.nextInt(3))).append((char) ('1' + random.nextInt(5)));
        }
        text.append(',');
        int asks = 1 + random.nextInt(24);
        int pages = 1 + random.nextInt(8);
        for (int i = 0; i < asks; i++) {
            text.append((char) ('a' + random.nextInt(pages)));
        }
        if (random.nextInt(4) == 0) {
            text.setCharAt(random.nextInt(text.length()), "dqcr;,ah150i`?".charAt(random.nextInt(14)));
        }
        if (random.nextInt(6) == 0) {
            text.setLength(random.nextInt(text.length()));
        }
        int sheet = random.nextInt(4);
        int lane = random.nextInt(3);
        same("sheet", sheet, lane, text.length());
        for (int i = 0; i < text.length(); i++) {
            same("put", sheet, i, text.charAt(i));
        }
        same("room", sheet, lane, 0, text.length());
    }

    private void tellPages() {
        int sheet = random.nextInt(4);
        int lane = random.nextInt(3);
        int n = random.nextInt(22);
        same("sheet", sheet, lane, n);
        for (int i = 0; i < n; i++) {
            same("put", sheet, i, random.nextInt(random.nextInt(8) == 0 ? 9 : 8));
        }
        for (int k = 0; k < 4; k++) {
            for (int what = 0; what < 5; what++) {
                same("tale", sheet, lane, random.nextInt(n + 1), random.nextInt(n + 1), k, what);
            }
        }
    }

    /** A number that is mostly as told. */
    private int about(int least, int most) {
        if (random.nextInt(wildness) == 0) {
            return random.nextBoolean() ? FAR[random.nextInt(FAR.length)] : random.nextBoolean() ? least - 1 : most + 1;
        }
        return least + random.nextInt(most - least + 1);
    }

    private boolean same(String name) {
        switch (name) {
            case "room": return random.nextInt(4) != 0 || same(name, about(0, 3), about(0, 2), about(0, 9), about(0, 60));
            case "ofDesk": return same(name, about(0, 3), about(0, 5));
            case "lies": return same(name, about(0, 3), about(0, 4));
            case "line": return same(name, about(0, 23));
            case "build": return same(name, about(0, 3), about(1, 5));
            case "come": return same(name, random.nextInt(6) == 0 ? about(1, 24) : about(1, 3));
            case "anew": return random.nextInt(5) != 0 || same(name, new int[0]);
            case "ask": return same(name, about(0, 7));
            case "tale": return same(name, about(0, 3), about(0, 2), about(0, 20), about(0, 20), about(0, 3), about(0, 4));
            case "misses": return same(name, about(0, 3), about(1, 8));
            case "need": return same(name, about(0, 3), about(0, 24));
            case "fewest": return same(name, about(1, 8));
            case "latest": return same(name, about(1, 8), about(0, 23));
            case "depth": return same(name, about(0, 23));
            case "work": return same(name, about(0, 23), about(1, 24));
            case "reading": return same(name, about(0, 3), about(0, 23), about(0, 1));
            case "back": return same(name, about(0, 8));
            case "odds": return same(name, about(0, 3), about(0, 3), about(0, 1));
            case "sheet": return random.nextInt(4) != 0 || same(name, about(0, 3), about(0, 2), about(0, 60));
            case "lose": return random.nextInt(4) != 0 || same(name, about(0, 3));
            case "put": return same(name, about(0, 3), about(0, 59), random.nextBoolean() ? random.nextInt() : about(0, 7));
            case "cell": return same(name, about(0, 3), about(0, 59), about(0, 2));
            case "copy": return same(name, about(0, 3), about(0, 20), about(0, 3), about(0, 20), about(0, 20));
            case "as": return same(name, about(0, 3), about(0, 2));
            case "many": return same(name, about(0, 4));
            case "odd", "sizes", "kinds", "tell", "tally": return same(name, about(0, 3));
            default: return same(name, new int[0]);
        }
    }

    private boolean same(String name, int... a) {
        StringBuilder call = new StringBuilder(name).append('(');
        for (int i = 0; i < a.length; i++) {
            call.append(i == 0 ? "" : ", ").append(a[i]);
        }
        calls.add(call.append(')').toString());
        long got = answer(name, a);
        long want = modelAnswer(name, a);
        check.due(call.toString(), got, want);
        return got == want;
    }

    private long answer(String name, int[] a) {
        switch (name) {
            case "room": return x.room(a[0], a[1], a[2], a[3]);
            case "ofDesk": return x.ofDesk(a[0], a[1]);
            case "lies": return x.lies(a[0], a[1]);
            case "line": return x.line(a[0]);
            case "build": return x.build(a[0], a[1]);
            case "come": return x.come(a[0]);
            case "anew": return x.anew();
            case "ask": return x.ask(a[0]);
            case "drop": return x.drop();
            case "tale": return x.tale(a[0], a[1], a[2], a[3], a[4], a[5]);
            case "misses": return x.misses(a[0], a[1]);
            case "odd": return x.odd(a[0]);
            case "need": return x.need(a[0], a[1]);
            case "fewest": return x.fewest(a[0]);
            case "latest": return x.latest(a[0], a[1]);
            case "depth": return x.depth(a[0]);
            case "work": return x.work(a[0], a[1]);
            case "reading": return x.reading(a[0], a[1], a[2]);
            case "back": return x.back(a[0]);
            case "sizes": return x.sizes(a[0]);
            case "kinds": return x.kinds(a[0]);
            case "odds": return x.odds(a[0], a[1], a[2]);
            case "sheet": return x.sheet(a[0], a[1], a[2]);
            case "lose": return x.lose(a[0]);
            case "put": return x.put(a[0], a[1], a[2]);
            case "cell": return x.cell(a[0], a[1], a[2]);
            case "copy": return x.copy(a[0], a[1], a[2], a[3], a[4]);
            case "tell": return x.tell(a[0]);
            case "tally": return x.tally(a[0]);
            case "as": return x.as(a[0], a[1]);
            case "trace": return x.trace();
            case "fault": return x.fault();
            case "many": return x.many(a[0]);
            default: throw new IllegalArgumentException(name);
        }
    }

    private long modelAnswer(String name, int[] a) {
        switch (name) {
            case "room": return model.room(a[0], a[1], a[2], a[3]);
            case "ofDesk": return model.ofDesk(a[0], a[1]);
            case "lies": return model.lies(a[0], a[1]);
            case "line": return model.line(a[0]);
            case "build": return model.build(a[0], a[1]);
            case "come": return model.come(a[0]);
            case "anew": return model.anew();
            case "ask": return model.ask(a[0]);
            case "drop": return model.drop();
            case "tale": return model.tale(a[0], a[1], a[2], a[3], a[4], a[5]);
            case "misses": return model.misses(a[0], a[1]);
            case "odd": return model.odd(a[0]);
            case "need": return model.need(a[0], a[1]);
            case "fewest": return model.fewest(a[0]);
            case "latest": return model.latest(a[0], a[1]);
            case "depth": return model.depth(a[0]);
            case "work": return model.work(a[0], a[1]);
            case "reading": return model.reading(a[0], a[1], a[2]);
            case "back": return model.back(a[0]);
            case "sizes": return model.sizes(a[0]);
            case "kinds": return model.kinds(a[0]);
            case "odds": return model.odds(a[0], a[1], a[2]);
            case "sheet": return model.sheet(a[0], a[1], a[2]);
            case "lose": return model.lose(a[0]);
            case "put": return model.put(a[0], a[1], a[2]);
            case "cell": return model.cell(a[0], a[1], a[2]);
            case "copy": return model.copy(a[0], a[1], a[2], a[3], a[4]);
            case "tell": return model.tell(a[0]);
            case "tally": return model.tally(a[0]);
            case "as": return model.as(a[0], a[1]);
            case "trace": return model.trace();
            case "fault": return model.fault();
            case "many": return model.many(a[0]);
            default: throw new IllegalArgumentException(name);
        }
    }
}
