import java.util.ArrayList;
import java.util.HashSet;
import java.util.LinkedHashMap;
import java.util.List;
import java.util.Map;
import java.util.Set;
import java.util.regex.Pattern;

/**
 * What the document asks for, in the plainest and slowest way: desks are run anew from the first ask for each answer,
 * choices and rows of pages are all gone through. It shares nothing with the class but the document.
 */
final class Model {
    private static final long LOST = Long.MIN_VALUE;
    private static final Pattern WHOLE = Pattern.compile("d(;[qcr][1-5]){1,4},[a-h]{1,24}");

    /** A desk as it is behind some asks: pages in their order, each with whether it is used. */
    private static final class Desk {
        final char kind;
        final int frames;
        Map<Integer, Boolean> row = new LinkedHashMap<>();
        final List<Boolean> hits = new ArrayList<>();

        Desk(char kind, int frames, List<Integer> asked) {
            this.kind = kind;
            this.frames = frames;
            asked.forEach(this::come);
        }

        void come(int page) {
            boolean hit = row.containsKey(page);
            hits.add(hit);
            if (hit) {
                if (kind == 'c') {
                    row.put(page, true);
                } else if (kind == 'r') {
                    row.remove(page);
                    row.put(page, true);
                }
                return;
            }
            if (row.size() == frames) {
                row.remove(first());
            }
            row.put(page, false);
        }

        /** Who goes; on a chance those ahead are put behind. */
        private int first() {
            while (kind == 'c' && row.get(row.keySet().iterator().next())) {
                int spared = row.keySet().iterator().next();
                row.remove(spared);
                row.put(spared, false);
            }
            return row.keySet().iterator().next();
        }

        int wouldGo() {
            if (row.size() < frames) {
                return -9;
            }
            Map<Integer, Boolean> kept = new LinkedHashMap<>(row);
            int page = first();
            row = kept;
            return page;
        }

        int pages() {
            return row.keySet().stream().mapToInt(p -> 1 << p).sum();
        }

        int used() {
            return row.keySet().stream().filter(p -> row.get(p)).mapToInt(p -> 1 << p).sum();
        }

        int missed() {
            return (int) hits.stream().filter(h -> !h).count();
        }
    }

    private final long[][] rows = new long[4][];
    private final int[] lanes = new int[4];
    private String kindsOfDesks = "";
    private final List<Integer> frames = new ArrayList<>();
    private final List<Integer> line = new ArrayList<>();
    private final List<int[]> readings = new ArrayList<>();
    private int came;
    private int trace;
    private int fault;

    private boolean noDesk(int k) {
        return k < 0 || k >= frames.size();
    }

    private boolean noAsk(int i) {
        return i < 0 || i >= line.size();
    }

    private static boolean noSheet(int k) {
        return k < 0 || k > 3;
    }

    private static boolean not(int number, int least, int most) {
        return number < least || number > most;
    }

    private Desk now(int k) {
        return new Desk(kindsOfDesks.charAt(k), frames.get(k), line.subList(0, came));
    }

    private int fell(int which) {
        fault = which;
        return -10 - which;
    }

    /** The fault that cells come to, or 0. */
    private int cellsFault(int sheet, int lane, long i, long n, boolean sizeIsTold) {
        if (rows[sheet] == null) {
            return 1;
        }
        if (lanes[sheet] != lane) {
            return 2;
        }
        if (n < 0 && sizeIsTold) {
            return 4;
        }
        return i < 0 || n < 0 || i + n > rows[sheet].length || i > rows[sheet].length ? 3 : 0;
    }

    int room(int sheet, int lane, int i, int n) {
        fault = 0;
        if (noSheet(sheet)) {
            return -1;
        }
        if (not(lane, 0, 2)) {
            return -2;
        }
        int fell = cellsFault(sheet, lane, i, n, true);
        if (fell != 0) {
            return fell(fell);
        }
        StringBuilder text = new StringBuilder();
        for (int j = 0; j < n; j++) {
            long code = rows[sheet][i + j];
            text.append(code < 32 || code > 126 ? '?' : (char) code);
        }
        for (int length = 1; length <= n; length++) {
            java.util.regex.Matcher m = WHOLE.matcher(text.substring(0, length));
            if (!m.matches() && !m.hitEnd()) {
                return -100 - (length - 1);
            }
        }
        if (!WHOLE.matcher(text).matches()) {
            return -100 - n;
        }
        kindsOfDesks = "";
        frames.clear();
        line.clear();
        readings.clear();
        came = 0;
        int comma = text.indexOf(",");
        for (String desk : text.substring(2, comma).split(";")) {
            kindsOfDesks += desk.charAt(0);
            frames.add(desk.charAt(1) - '0');
        }
        text.substring(comma + 1).chars().forEach(c -> line.add(c - 'a'));
        return frames.size();
    }

    int ofDesk(int k, int what) {
        if (noDesk(k)) {
            return -1;
        }
        Desk d = now(k);
        int[] all = {"qcr".indexOf(d.kind), d.frames, d.pages(), d.missed(), d.wouldGo(), d.used()};
        return not(what, 0, 5) ? -2 : all[what];
    }

    int lies(int k, int p) {
        if (noDesk(k)) {
            return -1;
        }
        if (not(p, 0, 4)) {
            return -2;
        }
        List<Integer> row = new ArrayList<>(now(k).row.keySet());
        return p < row.size() ? row.get(p) : -9;
    }

    int line(int i) {
        return noAsk(i) ? -1 : line.get(i);
    }

    int build(int k, int v) {
        return noDesk(k) ? -1 : not(v, 1, 5) ? -2 : frames.set(k, v);
    }

    private int missedByAll() {
        int sum = 0;
        for (int k = 0; k < frames.size(); k++) {
            sum += now(k).missed();
        }
        return sum;
    }

    int come(int n) {
        if (not(n, 1, 24)) {
            return -2;
        }
        if (frames.isEmpty() || came + n > line.size()) {
            return -3;
        }
        int before = missedByAll();
        came += n;
        return missedByAll() - before;
    }

    int anew() {
        if (frames.isEmpty()) {
            return -3;
        }
        int had = came;
        came = 0;
        return had;
    }

    int ask(int page) {
        if (frames.isEmpty()) {
            return -3;
        }
        if (not(page, 0, 7)) {
            return -2;
        }
        if (line.size() == 24) {
            return -4;
        }
        line.add(page);
        return line.size();
    }

    int drop() {
        if (frames.isEmpty() || came == line.size() || line.size() == 1) {
            return -3;
        }
        readings.clear();
        return line.remove(line.size() - 1);
    }

    int tale(int sheet, int lane, int i, int n, int k, int what) {
        fault = 0;
        if (noSheet(sheet) || noDesk(k)) {
            return -1;
        }
        if (not(lane, 0, 2) || not(n, 0, 20) || not(what, 0, 4)) {
            return -2;
        }
        int fell = cellsFault(sheet, lane, i, n, false);
        if (fell != 0) {
            return fell(fell);
        }
        List<Integer> all = new ArrayList<>(line.subList(0, came));
        for (int j = i; j < i + n; j++) {
            if (rows[sheet][j] < 0 || rows[sheet][j] > 7) {
                return -2;
            }
            all.add((int) rows[sheet][j]);
        }
        Desk d = new Desk(kindsOfDesks.charAt(k), frames.get(k), all);
        List<Boolean> told = d.hits.subList(came, all.size());
        int first = told.indexOf(false);
        int[] answers = {
            (int) told.stream().filter(h -> !h).count(), d.pages(), d.wouldGo(), d.used(), first < 0 ? -9 : first
        };
        return answers[what];
    }

    private int missedBy(int k, int f) {
        return new Desk(kindsOfDesks.charAt(k), f, line).missed();
    }

    int misses(int k, int f) {
        return noDesk(k) ? -1 : not(f, 1, 8) ? -2 : missedBy(k, f);
    }

    int odd(int k) {
        if (noDesk(k)) {
            return -1;
        }
        for (int f = 1; f <= 7; f++) {
            if (missedBy(k, f) < missedBy(k, f + 1)) {
                return f;
            }
        }
        return -9;
    }

    int need(int k, int v) {
        if (noDesk(k)) {
            return -1;
        }
        if (not(v, 0, 24)) {
            return -2;
        }
        for (int f = 1; f <= 8; f++) {
            if (missedBy(k, f) <= v) {
                return f;
            }
        }
        return -9;
    }

    /** All sets of pages that can lie there, with the fewest misses by which they do. */
    int fewest(int f) {
        if (frames.isEmpty()) {
            return -3;
        }
        if (not(f, 1, 8)) {
            return -2;
        }
        Map<Integer, Integer> ways = new LinkedHashMap<>();
        ways.put(0, 0);
        for (int page : line) {
            Map<Integer, Integer> next = new LinkedHashMap<>();
            ways.forEach((set, missed) -> {
                if ((set & 1 << page) != 0) {
                    next.merge(set, missed, Math::min);
                } else if (Integer.bitCount(set) < f) {
                    next.merge(set | 1 << page, missed + 1, Math::min);
                } else {
                    for (int gone = 0; gone < 8; gone++) {
                        if ((set & 1 << gone) != 0) {
                            next.merge(set & ~(1 << gone) | 1 << page, missed + 1, Math::min);
                        }
                    }
                }
            });
            ways = next;
        }
        return ways.values().stream().min(Integer::compare).get();
    }

    int latest(int f, int i) {
        if (noAsk(i)) {
            return -1;
        }
        if (not(f, 1, 8)) {
            return -2;
        }
        Set<Integer> lying = new HashSet<>();
        int gone = -9;
        for (int j = 0; j <= i; j++) {
            gone = -9;
            if (!lying.contains(line.get(j)) && lying.size() == f) {
                List<Integer> rest = line.subList(j + 1, line.size());
                List<Integer> pages = new ArrayList<>(lying);
                pages.sort((a, b) -> when(rest, a) != when(rest, b) ? when(rest, b) - when(rest, a) : a - b);
                gone = pages.get(0);
                lying.remove(gone);
            }
            lying.add(line.get(j));
        }
        return gone;
    }

    private static int when(List<Integer> rest, int page) {
        int at = rest.indexOf(page);
        return at < 0 ? 1000 : at;
    }

    int depth(int i) {
        if (noAsk(i)) {
            return -1;
        }
        int ahead = line.subList(0, i).lastIndexOf(line.get(i));
        return ahead < 0 ? -9 : new HashSet<>(line.subList(ahead, i + 1)).size();
    }

    int work(int i, int w) {
        if (noAsk(i)) {
            return -1;
        }
        if (not(w, 1, 24)) {
            return -2;
        }
        int set = 0;
        for (int j = i; j > i - w && j >= 0; j--) {
            set |= 1 << line.get(j);
        }
        return set;
    }

    int reading(int k, int i, int hit) {
        if (noDesk(k) || noAsk(i)) {
            return -1;
        }
        if (not(hit, 0, 1)) {
            return -2;
        }
        if (readings.size() == 8) {
            return -4;
        }
        readings.add(new int[] {k, i, hit});
        return readings.size() - 1;
    }

    int back(int k) {
        if (not(k, 0, readings.size())) {
            return -2;
        }
        for (int n = 0; n < k; n++) {
            readings.remove(readings.size() - 1);
        }
        return readings.size();
    }

    private boolean allSo(String kinds, List<Integer> sizes) {
        for (int[] r : readings) {
            boolean hit = new Desk(kinds.charAt(r[0]), sizes.get(r[0]), line).hits.get(r[1]);
            if (hit != (r[2] == 1)) {
                return false;
            }
        }
        return true;
    }

    int sizes(int k) {
        if (noDesk(k)) {
            return -1;
        }
        int set = 0;
        for (int f = 1; f <= 5; f++) {
            List<Integer> other = new ArrayList<>(frames);
            other.set(k, f);
            set += allSo(kindsOfDesks, other) ? 1 << f : 0;
        }
        return set;
    }

    int kinds(int k) {
        if (noDesk(k)) {
            return -1;
        }
        int set = 0;
        for (int kind = 0; kind < 3; kind++) {
            StringBuilder other = new StringBuilder(kindsOfDesks);
            other.setCharAt(k, "qcr".charAt(kind));
            set += allSo(other.toString(), frames) ? 1 << kind : 0;
        }
        return set;
    }

    long odds(int k, int n, int which) {
        if (noDesk(k) || not(n, 0, 3) || not(which, 0, 1)) {
            return LOST;
        }
        long rowsInAll = 1L << 3 * n;
        long without = 0;
        for (int row = 0; row < rowsInAll; row++) {
            Desk d = now(k);
            int before = d.missed();
            for (int j = 0; j < n; j++) {
                d.come(row >> 3 * j & 7);
            }
            without += d.missed() == before ? 1 : 0;
        }
        long both = java.math.BigInteger.valueOf(without).gcd(java.math.BigInteger.valueOf(rowsInAll)).longValue();
        return (which == 0 ? without : rowsInAll) / both;
    }

    int sheet(int k, int lane, int n) {
        fault = 0;
        if (noSheet(k)) {
            return -1;
        }
        if (not(lane, 0, 2) || n > 60) {
            return -2;
        }
        if (n < 0) {
            return fell(4);
        }
        rows[k] = new long[n];
        lanes[k] = lane;
        return 1;
    }

    int lose(int k) {
        if (noSheet(k)) {
            return -1;
        }
        int had = rows[k] == null ? 0 : 1;
        rows[k] = null;
        return had;
    }

    int put(int k, int i, int v) {
        fault = 0;
        if (noSheet(k)) {
            return -1;
        }
        int fell = cellsFault(k, lanes[k], i, 1, false);
        if (fell != 0) {
            return fell(fell);
        }
        rows[k][i] = lanes[k] == 0 ? (byte) v : lanes[k] == 1 ? (short) v : v;
        return 1;
    }

    long cell(int k, int i, int lane) {
        fault = 0;
        if (noSheet(k) || not(lane, 0, 2)) {
            return LOST;
        }
        fault = cellsFault(k, lane, i, 1, false);
        return fault == 0 ? rows[k][i] : LOST;
    }

    int copy(int k, int i, int other, int j, int n) {
        fault = 0;
        if (noSheet(k) || noSheet(other)) {
            return -1;
        }
        if (rows[k] == null || rows[other] == null) {
            return fell(1);
        }
        if (lanes[k] != lanes[other]) {
            return fell(2);
        }
        if (cellsFault(k, lanes[k], i, n, false) + cellsFault(other, lanes[other], j, n, false) != 0) {
            return fell(3);
        }
        long[] were = rows[k].clone();
        for (int m = 0; m < n; m++) {
            rows[other][j + m] = were[i + m];
        }
        return n;
    }

    private void leave(int... bodies) {
        for (int body : bodies) {
            trace = trace * 31 + body;
        }
    }

    int tell(int k) {
        if (noDesk(k)) {
            return -1;
        }
        int f = frames.get(k);
        switch (kindsOfDesks.charAt(k)) {
            case 'q': leave(1); return f;
            case 'c': leave(2, 1); return f + 100;
            default: leave(3, 2, 1, 1); return f + 100 + f;
        }
    }

    int tally(int k) {
        if (noDesk(k)) {
            return -1;
        }
        boolean recent = kindsOfDesks.charAt(k) == 'r';
        leave(recent ? 5 : 4);
        return recent ? 60 : now(k).missed();
    }

    int as(int k, int kind) {
        fault = 0;
        return noDesk(k) ? -1 : not(kind, 0, 2) ? -2 : "qcr".indexOf(kindsOfDesks.charAt(k)) >= kind ? 1 : fell(2);
    }

    int trace() {
        return trace;
    }

    int fault() {
        return fault;
    }

    int many(int what) {
        int[] all = {frames.size(), line.size(), came, new HashSet<>(line).size(), readings.size()};
        return not(what, 0, 4) ? -2 : all[what];
    }
}
