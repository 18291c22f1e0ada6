import java.util.Arrays;
import java.util.NoSuchElementException;

/** Walls of dry stone: heaps of stones, a plan found by tries, the toil of carrying, frosts and mending. */
public final class StoneWall {
    public static final int NONE = -1;

    private static final int SPENT = -2;
    private static final int MOST_KINDS = 8;
    private static final int MOST_HEAPS = 5;
    private static final int MOST_IN_HEAP = 60;
    private static final int FARTHEST = 100;
    private static final int LONGEST_STONE = 6;
    private static final int DEEPEST = 4;
    private static final int SHORTEST_WALL = 2;
    private static final int LONGEST_WALL = 24;
    private static final int MOST_COURSES = 6;
    private static final int MOST_THROUGHS = 3;
    private static final int MOST_STONES = LONGEST_WALL * MOST_COURSES;
    private static final int MOST_LOOKS = 20000;
    private static final int HARDEST_FROST = 50;
    private static final int WHOLE_HOLD = 99;

    private final Stock stock;
    private final Shape shape;
    private final Masonry masonry;
    private final Search search;
    private final Carrying carrying;

    public StoneWall() {
        stock = new Stock();
        shape = new Shape();
        masonry = new Masonry(stock, shape);
        search = new Search(stock, shape, masonry);
        carrying = new Carrying(stock, shape, masonry);
    }

    public int kind(int length, int depth) {
        if (masonry.built || stock.kinds >= MOST_KINDS) {
            return NONE;
        }
        if (!within(length, 1, LONGEST_STONE) || !within(depth, 1, DEEPEST)) {
            return NONE;
        }
        masonry.forget();
        return stock.addKind(length, depth);
    }

    public int heap(int x, int y) {
        if (masonry.built || stock.heaps >= MOST_HEAPS || !onTheMap(x, y)) {
            return NONE;
        }
        masonry.forget();
        return stock.addHeap(x, y);
    }

    public boolean stones(int heap, int kind, int n) {
        if (masonry.built || !stock.hasHeap(heap) || !stock.hasKind(kind) || !within(n, 0, MOST_IN_HEAP)) {
            return false;
        }
        masonry.forget();
        stock.amounts[heap][kind] = n;
        return true;
    }

    public boolean wall(int x, int y, int length, int courses, int depth, int batter) {
        if (masonry.built || !onTheMap(x, y) || !within(length, SHORTEST_WALL, LONGEST_WALL)) {
            return false;
        }
        if (!within(courses, 1, MOST_COURSES) || !within(depth, 1, DEEPEST) || !within(batter, 0, 1)) {
            return false;
        }
        masonry.forget();
        shape.tell(x, y, length, courses, depth, batter);
        return true;
    }

    public boolean through(int courses, int throughs) {
        if (!shape.told || masonry.built) {
            return false;
        }
        if (!within(courses, 0, (1 << shape.courses) - 1) || !within(throughs, 0, MOST_THROUGHS)) {
            return false;
        }
        masonry.forget();
        shape.throughCourses = courses;
        shape.throughs = throughs;
        return true;
    }

    public int plan() {
        if (!shape.told || masonry.built) {
            return NONE;
        }
        int answer = search.firstWhole();
        if (answer <= 0) {
            masonry.forget();
        } else {
            carrying.rememberHeaps();
        }
        return answer;
    }

    public int stone(int i, int what) throws IndexOutOfBoundsException, NoSuchElementException {
        if (i < 0 || i >= masonry.size) {
            throw new IndexOutOfBoundsException("no such stone");
        }
        switch (what) {
            case 0:
                return masonry.kinds[i];
            case 1:
                return masonry.courses[i];
            case 2:
                return masonry.places[i];
            case 3:
                return masonry.hearting(i);
            case 4:
                return masonry.isThroughStone(i) ? 1 : 0;
            case 5:
                return masonry.built ? masonry.holds[i] : 0;
            case 6:
                return masonry.isStanding(i) ? 1 : 0;
            case 7:
                return masonry.built ? masonry.origins[i] : NONE;
            default:
                throw new NoSuchElementException("no such what");
        }
    }

    public int over(int course, int place) {
        for (int i = 0; i < masonry.size; i++) {
            if (masonry.courses[i] == course && place >= masonry.places[i] && place < masonry.end(i)) {
                return i;
            }
        }
        return NONE;
    }

    public long least() {
        return masonry.size == 0 ? NONE : carrying.leastToil();
    }

    public long saved(int heap, int kind) {
        if (masonry.size == 0 || !stock.hasHeap(heap) || !stock.hasKind(kind)) {
            return NONE;
        }
        return carrying.toilSaved(heap, kind);
    }

    public long build() {
        if (masonry.size == 0 || masonry.built) {
            return NONE;
        }
        long carried = carrying.carryAll();
        masonry.raise();
        return carried;
    }

    public int frost(int n) {
        if (!masonry.built || !within(n, 0, HARDEST_FROST)) {
            return NONE;
        }
        masonry.frosts++;
        masonry.loosen(n);
        return masonry.letSlip();
    }

    public int mend() {
        return masonry.built ? masonry.layAnew() : NONE;
    }

    public int take(int heap) {
        if (!masonry.built || !stock.hasHeap(heap)) {
            return NONE;
        }
        for (int kind = 0; kind < stock.kinds; kind++) {
            if (stock.amounts[heap][kind] + masonry.number(kind) > MOST_IN_HEAP) {
                return NONE;
            }
        }
        for (int kind = 0; kind < stock.kinds; kind++) {
            stock.amounts[heap][kind] += masonry.number(kind);
        }
        int taken = masonry.size;
        masonry.forget();
        return taken;
    }

    public int count(int where, int kind) {
        if (!stock.hasKind(kind)) {
            return NONE;
        }
        if (stock.hasHeap(where)) {
            return stock.amounts[where][kind];
        }
        switch (where) {
            case 5:
                return masonry.numberStanding(kind);
            case 6:
                return masonry.numberAtFoot(kind);
            case 7:
                return stock.inHeaps(kind) + (masonry.built ? masonry.number(kind) : 0);
            default:
                return NONE;
        }
    }

    public int look(int what) {
        switch (what) {
            case 0:
                return stock.kinds;
            case 1:
                return stock.heaps;
            case 2:
                return masonry.size;
            case 3:
                return masonry.built ? 1 : 0;
            case 4:
                return search.looks;
            case 5:
                return masonry.heartingInAll();
            case 6:
                return masonry.allAtFoot();
            case 7:
                return masonry.frosts;
            default:
                return NONE;
        }
    }

    private static boolean within(int value, int low, int high) {
        return value >= low && value <= high;
    }

    private static boolean onTheMap(int x, int y) {
        return within(x, -FARTHEST, FARTHEST) && within(y, -FARTHEST, FARTHEST);
    }

    /** The kinds of stones, the heaps, and how many of each kind lie in each heap. */
    private static final class Stock {
        final int[] lengths = new int[MOST_KINDS];
        final int[] depths = new int[MOST_KINDS];
        final int[] xs = new int[MOST_HEAPS];
        final int[] ys = new int[MOST_HEAPS];
        final int[][] amounts = new int[MOST_HEAPS][MOST_KINDS];
        int kinds;
        int heaps;

        boolean hasKind(int kind) {
            return kind >= 0 && kind < kinds;
        }

        boolean hasHeap(int heap) {
            return heap >= 0 && heap < heaps;
        }

        int addKind(int length, int depth) {
            if (kinds >= MOST_KINDS) {
                return NONE;
            }
            lengths[kinds] = length;
            depths[kinds] = depth;
            kinds++;
            return kinds - 1;
        }

        int addHeap(int x, int y) {
            if (heaps >= MOST_HEAPS) {
                return NONE;
            }
            xs[heaps] = x;
            ys[heaps] = y;
            heaps++;
            return heaps - 1;
        }

        int inHeaps(int kind) {
            int sum = 0;
            for (int heap = 0; heap < heaps; heap++) {
                sum += amounts[heap][kind];
            }
            return sum;
        }
    }

    /** What the wall is to be. */
    private static final class Shape {
        boolean told;
        int x;
        int y;
        int length;
        int courses;
        int depth;
        int batter;
        int throughCourses;
        int throughs;

        void tell(int newX, int newY, int newLength, int newCourses, int newDepth, int newBatter) {
            told = true;
            x = newX;
            y = newY;
            length = newLength;
            courses = newCourses;
            depth = newDepth;
            batter = newBatter;
            // The bits are told of the courses of one wall: another wall has none until they are told anew.
            throughCourses = 0;
            throughs = 0;
        }

        int width(int course) {
            return Math.max(1, depth - course * batter);
        }

        int throughsAsked(int course) {
            return (throughCourses >> course & 1) == 1 ? throughs : 0;
        }
    }

    /** The stones of the plan, or of what was built by it, in the plan's order; no stones: there is no plan. */
    private static final class Masonry {
        private final Stock stock;
        private final Shape shape;
        final int[] kinds = new int[MOST_STONES];
        final int[] courses = new int[MOST_STONES];
        final int[] places = new int[MOST_STONES];
        final int[] holds = new int[MOST_STONES];
        final int[] origins = new int[MOST_STONES];
        private final boolean[] stands = new boolean[MOST_STONES];
        private final int[] standingPlaces = new int[MOST_COURSES];
        int size;
        boolean built;
        int frosts;

        Masonry(Stock stock, Shape shape) {
            this.stock = stock;
            this.shape = shape;
        }

        void forget() {
            size = 0;
            built = false;
            frosts = 0;
        }

        void add(int kind, int course, int place) {
            if (size >= MOST_STONES) {
                return;
            }
            kinds[size] = kind;
            courses[size] = course;
            places[size] = place;
            size++;
        }

        int end(int i) {
            return places[i] + stock.lengths[kinds[i]];
        }

        int hearting(int i) {
            int kind = kinds[i];
            return stock.lengths[kind] * Math.max(0, shape.width(courses[i]) - stock.depths[kind]);
        }

        int heartingInAll() {
            int sum = 0;
            for (int i = 0; i < size; i++) {
                sum += hearting(i);
            }
            return sum;
        }

        boolean isThroughStone(int i) {
            return stock.depths[kinds[i]] >= shape.width(courses[i]);
        }

        boolean isStanding(int i) {
            return built && stands[i];
        }

        int number(int kind) {
            int sum = 0;
            for (int i = 0; i < size; i++) {
                sum += kinds[i] == kind ? 1 : 0;
            }
            return sum;
        }

        int numberStanding(int kind) {
            int sum = 0;
            for (int i = 0; i < size; i++) {
                sum += kinds[i] == kind && isStanding(i) ? 1 : 0;
            }
            return sum;
        }

        int numberAtFoot(int kind) {
            return built ? number(kind) - numberStanding(kind) : 0;
        }

        int allAtFoot() {
            int sum = 0;
            for (int kind = 0; kind < stock.kinds; kind++) {
                sum += numberAtFoot(kind);
            }
            return sum;
        }

        void raise() {
            built = true;
            for (int i = 0; i < size; i++) {
                stands[i] = false;
            }
            layAnew();
        }

        int layAnew() {
            int laid = 0;
            for (int i = 0; i < size; i++) {
                if (!stands[i]) {
                    stands[i] = true;
                    holds[i] = WHOLE_HOLD;
                    laid++;
                }
            }
            return laid;
        }

        void loosen(int strength) {
            for (int i = 0; i < size; i++) {
                if (stands[i]) {
                    int freeEnds = (standsBeside(i, i - 1) ? 0 : 1) + (standsBeside(i, i + 1) ? 0 : 1);
                    holds[i] = Math.max(0, holds[i] - strength * (1 + freeEnds));
                }
            }
        }

        private boolean standsBeside(int i, int neighbour) {
            return neighbour >= 0 && neighbour < size && courses[neighbour] == courses[i] && stands[neighbour];
        }

        /**
         * One pass is enough: stones are in the order of their courses, and whether one slips hangs on its own
         * hold and on the course below alone, which is settled by then.
         */
        int letSlip() {
            int slipped = 0;
            Arrays.fill(standingPlaces, 0);
            for (int i = 0; i < size; i++) {
                if (stands[i] && (holds[i] == 0 || !isBorne(i))) {
                    stands[i] = false;
                    slipped++;
                }
                if (stands[i]) {
                    standingPlaces[courses[i]] |= placesOf(i);
                }
            }
            return slipped;
        }

        private boolean isBorne(int i) {
            int below = courses[i] - 1;
            return below < 0 || 2 * Integer.bitCount(placesOf(i) & standingPlaces[below]) >= end(i) - places[i];
        }

        /** The places that a stone lies over, as bits. */
        private int placesOf(int i) {
            return (1 << end(i)) - (1 << places[i]);
        }
    }

    /** The search for the first whole wall. */
    private static final class Search {
        // Each step but the last lays a stone, which is a look, or takes one up that was laid.
        private static final int MOST_STEPS = 2 * MOST_LOOKS + 2;

        private final Stock stock;
        private final Shape shape;
        private final Masonry masonry;
        private final int[] left = new int[MOST_KINDS];
        private final int[] joints = new int[MOST_COURSES];
        private int course;
        private int place;
        int looks;

        Search(Stock stock, Shape shape, Masonry masonry) {
            this.stock = stock;
            this.shape = shape;
            this.masonry = masonry;
        }

        /** How many stones the first whole wall has, 0 if there is none, or SPENT. */
        int firstWhole() {
            begin();
            int kind = nextToTry(0);
            for (int step = 0; step < MOST_STEPS; step++) {
                if (kind == NONE) {
                    if (masonry.size == 0) {
                        return 0;
                    }
                    kind = nextToTry(takeUp() + 1);
                } else if (looks >= MOST_LOOKS) {
                    return SPENT;
                } else {
                    looks++;
                    lay(kind);
                    if (place < shape.length) {
                        kind = nextToTry(0);
                    } else if (!hasThroughsAsked()) {
                        kind = NONE;
                    } else if (course + 1 == shape.courses) {
                        return masonry.size;
                    } else {
                        course++;
                        place = 0;
                        kind = nextToTry(0);
                    }
                }
            }
            return SPENT;
        }

        private void begin() {
            masonry.forget();
            looks = 0;
            course = 0;
            place = 0;
            Arrays.fill(joints, 0);
            for (int kind = 0; kind < stock.kinds; kind++) {
                left[kind] = stock.inHeaps(kind);
            }
        }

        private int nextToTry(int first) {
            for (int kind = first; kind < stock.kinds; kind++) {
                if (left[kind] > 0 && stock.depths[kind] <= shape.width(course) + 1 && endsWell(kind)) {
                    return kind;
                }
            }
            return NONE;
        }

        private boolean endsWell(int kind) {
            int end = place + stock.lengths[kind];
            boolean overJoint = course > 0 && (joints[course - 1] >> end & 1) == 1;
            return end <= shape.length && !overJoint;
        }

        private void lay(int kind) {
            masonry.add(kind, course, place);
            left[kind]--;
            place += stock.lengths[kind];
            joints[course] ^= jointAt(place);
        }

        /** Takes the last stone up again: its kind. */
        private int takeUp() {
            int last = masonry.size - 1;
            int kind = masonry.kinds[last];
            course = masonry.courses[last];
            place = masonry.places[last];
            joints[course] ^= jointAt(masonry.end(last));
            left[kind]++;
            masonry.size = last;
            return kind;
        }

        private int jointAt(int end) {
            return end < shape.length ? 1 << end : 0;
        }

        private boolean hasThroughsAsked() {
            int found = 0;
            for (int i = masonry.size - 1; i >= 0 && masonry.courses[i] == course; i--) {
                found += masonry.isThroughStone(i) ? 1 : 0;
            }
            return found >= shape.throughsAsked(course);
        }
    }

    /**
     * Stones on their way from the heaps. All stones of a kind weigh the same, so the least toil is, kind by kind,
     * the least sum of ways: places are supplied one after the other, each stone by the shortest chain in which a
     * heap gives a stone and other heaps take over from one another what they gave before.
     */
    private static final class Carrying {
        private final Stock stock;
        private final Shape shape;
        private final Masonry masonry;
        private final int[][] had = new int[MOST_HEAPS][MOST_KINDS];
        private final int[] room = new int[MOST_HEAPS];
        private final int[][] given = new int[MOST_HEAPS][LONGEST_WALL];
        private final int[][] swapCost = new int[MOST_HEAPS][MOST_HEAPS];
        private final int[][] swapPlace = new int[MOST_HEAPS][MOST_HEAPS];
        private final int[] chainCost = new int[MOST_HEAPS];
        private final int[] chainFrom = new int[MOST_HEAPS];

        Carrying(Stock stock, Shape shape, Masonry masonry) {
            this.stock = stock;
            this.shape = shape;
            this.masonry = masonry;
        }

        void rememberHeaps() {
            for (int heap = 0; heap < stock.heaps; heap++) {
                System.arraycopy(stock.amounts[heap], 0, had[heap], 0, MOST_KINDS);
            }
        }

        /** Takes each stone of the plan from the nearest heap that has its kind still: the toil in all. */
        long carryAll() {
            long carried = 0;
            for (int i = 0; i < masonry.size; i++) {
                int kind = masonry.kinds[i];
                int heap = nearestWith(kind, masonry.places[i]);
                masonry.origins[i] = heap;
                if (heap != NONE) {
                    stock.amounts[heap][kind]--;
                    carried += weight(kind) * way(heap, masonry.places[i]);
                }
            }
            return carried;
        }

        private int nearestWith(int kind, int place) {
            int nearest = NONE;
            for (int heap = 0; heap < stock.heaps; heap++) {
                boolean nearer = nearest == NONE || way(heap, place) < way(nearest, place);
                if (stock.amounts[heap][kind] > 0 && nearer) {
                    nearest = heap;
                }
            }
            return nearest;
        }

        private long weight(int kind) {
            return (long) stock.lengths[kind] * stock.depths[kind];
        }

        private int way(int heap, int place) {
            return Math.abs(stock.xs[heap] - (shape.x + place)) + Math.abs(stock.ys[heap] - shape.y);
        }

        long leastToil() {
            long sum = 0;
            for (int kind = 0; kind < stock.kinds; kind++) {
                sum += weight(kind) * leastWays(kind, NONE);
            }
            return sum;
        }

        long toilSaved(int heap, int kind) {
            return weight(kind) * (leastWays(kind, NONE) - leastWays(kind, heap));
        }

        /** The least sum of ways for the stones of a kind, if one heap (or none) had had one more of it. */
        private long leastWays(int kind, int heapWithMore) {
            for (int heap = 0; heap < stock.heaps; heap++) {
                room[heap] = had[heap][kind] + (heap == heapWithMore ? 1 : 0);
                Arrays.fill(given[heap], 0);
            }
            long sum = 0;
            for (int i = 0; i < masonry.size; i++) {
                if (masonry.kinds[i] == kind) {
                    sum += supply(masonry.places[i]);
                }
            }
            return sum;
        }

        /** Gives one stone more to a place: by how much the least sum of ways grows. */
        private int supply(int place) {
            findSwaps();
            findChains(place);
            int giver = cheapestGiver();
            if (giver == NONE) {
                return 0;
            }
            room[giver]--;
            followChain(giver, place);
            return chainCost[giver];
        }

        /** For each two heaps: the place at which it costs least that the second gives instead of the first. */
        private void findSwaps() {
            for (int first = 0; first < stock.heaps; first++) {
                Arrays.fill(swapPlace[first], NONE);
                for (int place = 0; place < shape.length; place++) {
                    if (given[first][place] > 0) {
                        weighSwaps(first, place);
                    }
                }
            }
        }

        private void weighSwaps(int first, int place) {
            int wayNow = way(first, place);
            for (int second = 0; second < stock.heaps; second++) {
                int cost = way(second, place) - wayNow;
                if (swapPlace[first][second] == NONE || cost < swapCost[first][second]) {
                    swapPlace[first][second] = place;
                    swapCost[first][second] = cost;
                }
            }
        }

        /** A shortest chain has each heap once, so as many rounds as there are heaps find them all. */
        private void findChains(int place) {
            for (int heap = 0; heap < stock.heaps; heap++) {
                chainCost[heap] = way(heap, place);
                chainFrom[heap] = NONE;
            }
            for (int round = 0; round < stock.heaps; round++) {
                for (int first = 0; first < stock.heaps; first++) {
                    lengthenChains(first);
                }
            }
        }

        private void lengthenChains(int first) {
            for (int second = 0; second < stock.heaps; second++) {
                int cost = chainCost[first] + swapCost[first][second];
                if (swapPlace[first][second] != NONE && cost < chainCost[second]) {
                    chainCost[second] = cost;
                    chainFrom[second] = first;
                }
            }
        }

        private int cheapestGiver() {
            int giver = NONE;
            for (int heap = 0; heap < stock.heaps; heap++) {
                if (room[heap] > 0 && (giver == NONE || chainCost[heap] < chainCost[giver])) {
                    giver = heap;
                }
            }
            return giver;
        }

        private void followChain(int giver, int place) {
            int heap = giver;
            for (int link = 0; link < stock.heaps && chainFrom[heap] != NONE; link++) {
                int before = chainFrom[heap];
                int swapped = swapPlace[before][heap];
                given[before][swapped]--;
                given[heap][swapped]++;
                heap = before;
            }
            given[heap][place]++;
        }
    }
}
