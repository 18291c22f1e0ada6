import java.util.ArrayList;
import java.util.List;

/** The document written down once more, word by word and without haste, to compare the class with. */
final class Model {
    static final class Stone {
        int kind;
        int course;
        int place;
        int hold;
        boolean stands;
        int heap = -1;
    }

    private final List<int[]> kinds = new ArrayList<>();
    private final List<int[]> heaps = new ArrayList<>();
    private final int[][] amounts = new int[5][8];
    private final int[][] before = new int[5][8];
    private final int mostLooks;
    private int[] wall = null;
    private int throughBits = 0;
    private int throughs = 0;
    private List<Stone> stones = new ArrayList<>();
    private boolean built = false;
    private int looks = 0;
    private int frosts = 0;
    private boolean spent = false;

    Model() {
        this(20000);
    }

    Model(int mostLooks) {
        this.mostLooks = mostLooks;
    }

    private static boolean in(int v, int low, int high) {
        return low <= v && v <= high;
    }

    private void noPlan() {
        stones = new ArrayList<>();
        built = false;
        frosts = 0;
    }

    int kind(int length, int depth) {
        if (built || kinds.size() == 8 || !in(length, 1, 6) || !in(depth, 1, 4)) {
            return -1;
        }
        noPlan();
        kinds.add(new int[] {length, depth});
        return kinds.size() - 1;
    }

    int heap(int x, int y) {
        if (built || heaps.size() == 5 || !in(x, -100, 100) || !in(y, -100, 100)) {
            return -1;
        }
        noPlan();
        heaps.add(new int[] {x, y});
        return heaps.size() - 1;
    }

    private boolean isHeap(int h) {
        return in(h, 0, heaps.size() - 1);
    }

    private boolean isKind(int k) {
        return in(k, 0, kinds.size() - 1);
    }

    boolean stones(int heap, int kind, int n) {
        if (built || !isHeap(heap) || !isKind(kind) || !in(n, 0, 60)) {
            return false;
        }
        noPlan();
        amounts[heap][kind] = n;
        return true;
    }

    boolean wall(int x, int y, int length, int courses, int depth, int batter) {
        if (built || !in(x, -100, 100) || !in(y, -100, 100) || !in(length, 2, 24) || !in(courses, 1, 6)
                || !in(depth, 1, 4) || !in(batter, 0, 1)) {
            return false;
        }
        noPlan();
        wall = new int[] {x, y, length, courses, depth, batter};
        throughBits = 0;
        throughs = 0;
        return true;
    }

    boolean through(int courses, int number) {
        if (wall == null || built || courses < 0 || courses >= (1 << wall[3]) || !in(number, 0, 3)) {
            return false;
        }
        noPlan();
        throughBits = courses;
        throughs = number;
        return true;
    }

    private int width(int course) {
        int width = wall[4] - course * wall[5];
        return width < 1 ? 1 : width;
    }

    private int length(Stone s) {
        return kinds.get(s.kind)[0];
    }

    private int depth(Stone s) {
        return kinds.get(s.kind)[1];
    }

    private boolean isThrough(Stone s) {
        return depth(s) >= width(s.course);
    }

    private boolean jointAt(int course, int place) {
        if (place == 0 || place == wall[2]) {
            return false;
        }
        for (Stone s : stones) {
            if (s.course == course && s.place == place) {
                return true;
            }
        }
        return false;
    }

    int plan() {
        if (wall == null || built) {
            return -1;
        }
        noPlan();
        looks = 0;
        spent = false;
        if (!fill(0, 0)) {
            stones.clear();
            return spent ? -2 : 0;
        }
        for (int h = 0; h < 5; h++) {
            before[h] = amounts[h].clone();
        }
        return stones.size();
    }

    private boolean fill(int course, int place) {
        if (place == wall[2]) {
            long found = stones.stream().filter(s -> s.course == course && isThrough(s)).count();
            if ((throughBits & 1 << course) != 0 && found < throughs) {
                return false;
            }
            return course + 1 == wall[3] || fill(course + 1, 0);
        }
        for (int k = 0; k < kinds.size(); k++) {
            int end = place + kinds.get(k)[0];
            int kind = k;
            long used = stones.stream().filter(s -> s.kind == kind).count();
            int all = 0;
            for (int h = 0; h < 5; h++) {
                all += amounts[h][k];
            }
            boolean jointOverJoint = end < wall[2] && course > 0 && jointAt(course - 1, end);
            if (kinds.get(k)[1] > width(course) + 1 || end > wall[2] || all <= used || jointOverJoint) {
                continue;
            }
            if (looks + 1 > mostLooks) {
                spent = true;
                return false;
            }
            looks++;
            Stone s = new Stone();
            s.kind = k;
            s.course = course;
            s.place = place;
            stones.add(s);
            if (fill(course, end)) {
                return true;
            }
            if (spent) {
                return false;
            }
            stones.remove(stones.size() - 1);
        }
        return false;
    }

    /** -100: no such stone, -200: no such what. */
    int stone(int i, int what) {
        if (!in(i, 0, stones.size() - 1)) {
            return -100;
        }
        Stone s = stones.get(i);
        switch (what) {
            case 0: return s.kind;
            case 1: return s.course;
            case 2: return s.place;
            case 3: return hearting(s);
            case 4: return isThrough(s) ? 1 : 0;
            case 5: return s.hold;
            case 6: return s.stands ? 1 : 0;
            case 7: return s.heap;
            default: return -200;
        }
    }

    private int hearting(Stone s) {
        return depth(s) < width(s.course) ? length(s) * (width(s.course) - depth(s)) : 0;
    }

    int over(int course, int place) {
        for (int i = 0; i < stones.size(); i++) {
            Stone s = stones.get(i);
            for (int p = s.place; p < s.place + length(s); p++) {
                if (s.course == course && p == place) {
                    return i;
                }
            }
        }
        return -1;
    }

    private int toil(Stone s, int h) {
        int way = Math.abs(heaps.get(h)[0] - wall[0] - s.place) + Math.abs(heaps.get(h)[1] - wall[1]);
        return length(s) * depth(s) * way;
    }

    long least() {
        return stones.isEmpty() ? -1 : leastFrom(before);
    }

    long saved(int heap, int kind) {
        if (stones.isEmpty() || !isHeap(heap) || !isKind(kind)) {
            return -1;
        }
        int[][] more = new int[5][];
        for (int h = 0; h < 5; h++) {
            more[h] = before[h].clone();
        }
        more[heap][kind]++;
        return leastFrom(before) - leastFrom(more);
    }

    /** Each kind by itself: an assignment of its stones to single stones in heaps (the Hungarian method). */
    private long leastFrom(int[][] heapsThen) {
        long sum = 0;
        for (int k = 0; k < kinds.size(); k++) {
            List<Stone> wanted = new ArrayList<>();
            for (Stone s : stones) {
                if (s.kind == k) {
                    wanted.add(s);
                }
            }
            List<Integer> slots = new ArrayList<>();
            for (int h = 0; h < heaps.size(); h++) {
                for (int n = 0; n < heapsThen[h][k]; n++) {
                    slots.add(h);
                }
            }
            sum += assign(wanted, slots);
        }
        return sum;
    }

    private long assign(List<Stone> rows, List<Integer> columns) {
        int n = rows.size();
        int m = columns.size();
        long[] u = new long[n + 1];
        long[] v = new long[m + 1];
        int[] match = new int[m + 1];
        int[] way = new int[m + 1];
        for (int i = 1; i <= n; i++) {
            match[0] = i;
            int column = 0;
            long[] min = new long[m + 1];
            java.util.Arrays.fill(min, Long.MAX_VALUE / 4);
            boolean[] used = new boolean[m + 1];
            do {
                used[column] = true;
                int row = match[column];
                long delta = Long.MAX_VALUE / 4;
                int next = 0;
                for (int j = 1; j <= m; j++) {
                    if (!used[j]) {
                        long cost = toil(rows.get(row - 1), columns.get(j - 1)) - u[row] - v[j];
                        if (cost < min[j]) {
                            min[j] = cost;
                            way[j] = column;
                        }
                        if (min[j] < delta) {
                            delta = min[j];
                            next = j;
                        }
                    }
                }
                for (int j = 0; j <= m; j++) {
                    if (used[j]) {
                        u[match[j]] += delta;
                        v[j] -= delta;
                    } else {
                        min[j] -= delta;
                    }
                }
                column = next;
            } while (match[column] != 0);
            do {
                int from = way[column];
                match[column] = match[from];
                column = from;
            } while (column != 0);
        }
        long sum = 0;
        for (int j = 1; j <= m; j++) {
            if (match[j] != 0) {
                sum += toil(rows.get(match[j] - 1), columns.get(j - 1));
            }
        }
        return sum;
    }

    long build() {
        if (stones.isEmpty() || built) {
            return -1;
        }
        built = true;
        frosts = 0;
        long carried = 0;
        for (Stone s : stones) {
            for (int h = 0; h < heaps.size(); h++) {
                if (amounts[h][s.kind] > 0 && (s.heap < 0 || toil(s, h) < toil(s, s.heap))) {
                    s.heap = h;
                }
            }
            amounts[s.heap][s.kind]--;
            carried += toil(s, s.heap);
            s.hold = 99;
            s.stands = true;
        }
        return carried;
    }

    private boolean standsFromTo(int course, int place) {
        int i = over(course, place);
        return i >= 0 && stones.get(i).stands;
    }

    int frost(int n) {
        if (!built || !in(n, 0, 50)) {
            return -1;
        }
        frosts++;
        for (Stone s : stones) {
            if (s.stands) {
                int times = 1;
                if (!standsFromTo(s.course, s.place - 1)) {
                    times++;
                }
                if (!standsFromTo(s.course, s.place + length(s))) {
                    times++;
                }
                s.hold -= n * times;
                if (s.hold < 0) {
                    s.hold = 0;
                }
            }
        }
        int slipped = 0;
        while (true) {
            List<Stone> slipping = new ArrayList<>();
            for (Stone s : stones) {
                int borne = 0;
                for (int p = s.place; p < s.place + length(s); p++) {
                    if (s.course > 0 && standsFromTo(s.course - 1, p)) {
                        borne++;
                    }
                }
                boolean unborne = s.course > 0 && borne < length(s) / 2.0;
                if (s.stands && (s.hold == 0 || unborne)) {
                    slipping.add(s);
                }
            }
            if (slipping.isEmpty()) {
                return slipped;
            }
            for (Stone s : slipping) {
                s.stands = false;
                slipped++;
            }
        }
    }

    int mend() {
        if (!built) {
            return -1;
        }
        int laid = 0;
        for (Stone s : stones) {
            if (!s.stands) {
                s.stands = true;
                s.hold = 99;
                laid++;
            }
        }
        return laid;
    }

    int take(int heap) {
        if (!built || !isHeap(heap)) {
            return -1;
        }
        int[] would = amounts[heap].clone();
        for (Stone s : stones) {
            would[s.kind]++;
        }
        for (int n : would) {
            if (n > 60) {
                return -1;
            }
        }
        amounts[heap] = would;
        int taken = stones.size();
        noPlan();
        return taken;
    }

    int count(int where, int kind) {
        if (!isKind(kind)) {
            return -1;
        }
        if (in(where, 0, 4)) {
            return isHeap(where) ? amounts[where][kind] : -1;
        }
        int standing = 0;
        int foot = 0;
        int all = 0;
        for (Stone s : stones) {
            if (built && s.kind == kind) {
                standing += s.stands ? 1 : 0;
                foot += s.stands ? 0 : 1;
            }
        }
        for (int[] row : amounts) {
            all += row[kind];
        }
        return where == 5 ? standing : where == 6 ? foot : where == 7 ? all + standing + foot : -1;
    }

    int look(int what) {
        switch (what) {
            case 0: return kinds.size();
            case 1: return heaps.size();
            case 2: return stones.size();
            case 3: return built ? 1 : 0;
            case 4: return looks;
            case 5: return stones.stream().mapToInt(this::hearting).sum();
            case 6: return (int) stones.stream().filter(s -> built && !s.stands).count();
            case 7: return frosts;
            default: return -1;
        }
    }
}
