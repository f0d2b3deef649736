import java.util.Arrays;

public final class BothWould {
    public static final int BAD = -1, NO = -2, FULL = -3, NONE = -4;

    private static final int MOST_PERSONS = 6;
    private static final int MOST_BYTES = 300;
    private static final int MOST_TOLD = 12;
    private static final int MOST_UNDONE = 8;
    private static final int MOST_SEEN = 8;
    private static final int MOST_KEPT = 2;
    private static final int MOST_EVENINGS = 6;
    private static final int MOST_GOING_ON = 1000;
    private static final int ARRANGEMENTS = 720;

    private static final int PLAIN = 0, WILLING = 1, GREEDY = 2, FOOL = 3, MEEK = 4;
    private static final int GREEDY_GAIN = 10;
    private static final int NO_LIKING = 50;
    private static final int FULL_WORTH = 100;
    private static final int DEAREST_STEP = 20;

    private static final int WORTH_SHIFT = 1000;
    private static final int SUM_SHIFT = 10000;
    private static final int MEAN_SHIFT = 100000000;

    // Below every WORTH that there can be: stands for an evening that never comes to REST.
    private static final int NO_WORTH = -1000000;
    private static final int NOBODY = -1;

    private final Text text = new Text();
    private Houses houses = new Houses();
    // The text is read into this one, so that a text that can't be LAID leaves the other as it is.
    private Houses draft = new Houses();
    private int row;
    private final Pile told = new Pile(MOST_TOLD);
    private final Pile done = new Pile(MOST_UNDONE);
    private final Pile kept = new Pile(MOST_KEPT);
    private final Sightings sightings = new Sightings();
    private final Graph graph = new Graph();
    private boolean graphDrawn = false;
    private final Search search = new Search();
    private final Evenings evenings = new Evenings();
    private final Walk walk = new Walk();

    public BothWould() {
        houses.addPerson(1, 5, PLAIN);
        houses.addPerson(0, 5, PLAIN);
        row = Row.ordered(houses.persons);
    }

    // ---- houses

    public int write(int n, long v) {
        if (n < 1 || n > 8) {
            return BAD;
        }
        return text.append(n, v) ? text.length : FULL;
    }

    public int wipe() {
        int before = text.length;
        text.length = 0;
        return before;
    }

    public int fault() {
        int place = text.read(draft);
        return place < 0 ? NONE : place;
    }

    public int lay() {
        if (text.read(draft) >= 0 || !draft.canBeLaid()) {
            return NO;
        }
        Houses other = houses;
        houses = draft;
        draft = other;
        row = Row.ordered(houses.persons);
        told.size = 0;
        done.size = 0;
        kept.size = 0;
        sightings.size = 0;
        graphDrawn = false;
        return houses.persons;
    }

    public int person(int i, int what) {
        if (!houses.has(i)) {
            return BAD;
        }
        switch (what) {
            case 0:
                return houses.bestPlace[i];
            case 1:
                return houses.stepCost[i];
            case 2:
                return houses.kind[i];
            case 3:
                return Row.placeOf(row, i);
            default:
                return BAD;
        }
    }

    public int likes(int i, int j) {
        if (!houses.has(i) || !houses.has(j) || i == j) {
            return BAD;
        }
        return houses.liking(i, j);
    }

    public int worth(int i) {
        if (!houses.has(i)) {
            return BAD;
        }
        return houses.worthOf(row, i) + WORTH_SHIFT;
    }

    public int at(int p) {
        return houses.has(p) ? Row.who(row, p) : BAD;
    }

    // ---- changes

    public int suits(int x, boolean three) {
        if (three ? !houses.hasRound(x) : !houses.hasChange(x)) {
            return BAD;
        }
        return (three ? houses.roundSuits(row, x) : houses.changeSuits(row, x)) ? 1 : 0;
    }

    public int change(int x) {
        if (!houses.hasChange(x)) {
            return BAD;
        }
        if (!houses.changeSuits(row, x)) {
            return NO;
        }
        return moveTo(houses.changed(row, x), x);
    }

    public int round(int x) {
        if (!houses.hasRound(x)) {
            return BAD;
        }
        if (!houses.roundSuits(row, x)) {
            return NO;
        }
        return moveTo(houses.turned(row, x), x);
    }

    private int moveTo(int next, int x) {
        if (done.isFull()) {
            done.dropOldest();
        }
        done.push(row);
        row = next;
        return Row.who(row, x);
    }

    public int undo() {
        if (done.size == 0) {
            return NO;
        }
        row = done.pop();
        return done.size;
    }

    public int tell(int x) {
        if (!houses.hasChange(x)) {
            return BAD;
        }
        if (told.isFull()) {
            return FULL;
        }
        told.push(x);
        return told.size;
    }

    public int noRow() {
        int before = told.size;
        told.size = 0;
        return before;
    }

    public int judge() {
        int now = row;
        for (int k = 0; k < told.size; k++) {
            int x = told.get(k);
            if (!houses.changeSuits(now, x)) {
                return k;
            }
            now = houses.changed(now, x);
        }
        return NONE;
    }

    // ---- rest

    public int rests(int p) {
        if (!isPlaceOrAll(p)) {
            return BAD;
        }
        drawGraph();
        if (p < 0) {
            return graph.restCount;
        }
        return graph.firstRest < 0 ? NONE : Row.who(graph.rowOf(graph.firstRest), p);
    }

    public int goingOn(int p) {
        if (!isPlaceOrAll(p)) {
            return BAD;
        }
        if (!walk.comesToRest(houses, row)) {
            return NONE;
        }
        return p < 0 ? walk.steps : Row.who(walk.end, p);
    }

    public int longest() {
        drawGraph();
        int most = search.longestFrom(graph, graph.stateOf(row));
        return most < 0 ? NONE : most;
    }

    public int shortest(int what) {
        if (!isEither(what)) {
            return BAD;
        }
        drawGraph();
        search.spread(graph, graph.stateOf(row), NOBODY);
        int s = search.nearestRest(graph);
        return s < 0 ? NONE : answerOfWay(s, what);
    }

    public int comes(int i, int p, int what) {
        if (!houses.has(i) || !houses.has(p) || !isEither(what)) {
            return BAD;
        }
        drawGraph();
        int s = stateWith(i, p, NOBODY);
        return s < 0 ? NONE : answerOfWay(s, what);
    }

    public int bars(int i, int p) {
        if (!houses.has(i) || !houses.has(p)) {
            return BAD;
        }
        drawGraph();
        if (stateWith(i, p, NOBODY) >= 0) {
            return NONE;
        }
        for (int j = 0; j < houses.persons; j++) {
            if (j != i && stateWith(i, p, j) >= 0) {
                return j;
            }
        }
        return NONE;
    }

    public int best(int p) {
        if (!isPlaceOrAll(p)) {
            return BAD;
        }
        int top = Row.ordered(houses.persons);
        int topSum = houses.sumOfWorths(top);
        int next = Row.following(top, houses.persons);
        for (int k = 1; k < ARRANGEMENTS && next >= 0; k++) {
            int sum = houses.sumOfWorths(next);
            if (sum > topSum) {
                topSum = sum;
                top = next;
            }
            next = Row.following(next, houses.persons);
        }
        return p < 0 ? topSum + SUM_SHIFT : Row.who(top, p);
    }

    private void drawGraph() {
        if (!graphDrawn) {
            graph.draw(houses);
            graphDrawn = true;
        }
    }

    // The nearest arrangement that can be come to with PERSON i at PLACE p; -1 if there is none.
    private int stateWith(int i, int p, int meek) {
        search.spread(graph, graph.stateOf(row), meek);
        return search.nearestWith(graph, i, p);
    }

    private int answerOfWay(int s, int what) {
        int many = search.stepsTo(s);
        if (what == 0) {
            return many;
        }
        return many == 0 ? NONE : search.firstTo(s);
    }

    // ---- prices, lies, chance

    public int price(int x, int which) {
        if (!houses.hasChange(x) || !isEither(which)) {
            return BAD;
        }
        int cost = priceOf(x, which);
        return cost < 0 ? NONE : cost;
    }

    public int deal(int x) {
        if (!houses.hasChange(x)) {
            return BAD;
        }
        return pays(x, 0) || pays(x, 1) ? 1 : 0;
    }

    // The WORTH that is missing for a yes; -1 if no WORTH brings it.
    private int priceOf(int x, int which) {
        int p = which == 0 ? x : houses.after(x);
        return Houses.missing(houses.kind[Row.who(row, p)], gainOf(x, which));
    }

    private int gainOf(int x, int which) {
        int other = houses.after(x);
        int from = which == 0 ? x : other;
        int to = which == 0 ? other : x;
        return houses.worthAt(houses.changed(row, x), to) - houses.worthAt(row, from);
    }

    private boolean pays(int x, int which) {
        int asked = priceOf(x, 1 - which);
        return priceOf(x, which) == 0 && asked >= 0 && gainOf(x, which) >= asked + 1;
    }

    public int lie(int i, int what) {
        if (!houses.has(i) || !isEither(what)) {
            return BAD;
        }
        int truth = worthBySaying(i, houses.bestPlace[i]);
        // Nothing can be said of a lie that has no truth to stand beside.
        if (truth == NO_WORTH) {
            return NONE;
        }
        int top = NO_WORTH;
        int said = NONE;
        for (int b = 0; b < houses.persons; b++) {
            int worth = worthBySaying(i, b);
            if (worth > top) {
                top = worth;
                said = b;
            }
        }
        return what == 0 ? said : top - truth;
    }

    private int worthBySaying(int i, int b) {
        int truth = houses.bestPlace[i];
        houses.bestPlace[i] = b;
        boolean rests = walk.comesToRest(houses, row);
        houses.bestPlace[i] = truth;
        return rests ? houses.worthOf(walk.end, i) : NO_WORTH;
    }

    public int seen(int i, int x, int y, boolean agreed) {
        if (!houses.has(i) || !houses.has(x) || !houses.has(y) || x == y) {
            return BAD;
        }
        return sightings.add(i, x, y, agreed) ? sightings.size : FULL;
    }

    public int forget() {
        int before = sightings.size;
        sightings.size = 0;
        return before;
    }

    public int fits(int i, int what) {
        if (!houses.has(i) || !isEither(what)) {
            return BAD;
        }
        int many = 0;
        int lowest = NONE;
        for (int b = houses.persons - 1; b >= 0; b--) {
            if (sightings.allow(houses, i, b)) {
                many++;
                lowest = b;
            }
        }
        return what == 0 ? many : lowest;
    }

    public int mean(int i, int n, int part) {
        if (!houses.has(i) || n < 0 || n > MOST_EVENINGS || !isEither(part)) {
            return BAD;
        }
        drawGraph();
        evenings.pass(graph, graph.stateOf(row), n);
        evenings.takeMean(graph, houses, i);
        return part == 0 ? evenings.above + MEAN_SHIFT : evenings.below;
    }

    public int keep() {
        if (kept.isFull()) {
            return FULL;
        }
        kept.push(row);
        return kept.size;
    }

    public int back() {
        if (kept.size == 0) {
            return NO;
        }
        row = kept.pop();
        done.size = 0;
        return kept.size;
    }

    public int count(int what) {
        switch (what) {
            case 0:
                return houses.persons;
            case 1:
                return houses.changeCount();
            case 2:
                return houses.suitingCount(row);
            case 3:
                return told.size;
            case 4:
                return sightings.size;
            case 5:
                return done.size;
            case 6:
                return kept.size;
            case 7:
                return text.length;
            default:
                return BAD;
        }
    }

    private boolean isPlaceOrAll(int p) {
        return p == -1 || houses.has(p);
    }

    private static boolean isEither(int what) {
        return what == 0 || what == 1;
    }

    // An arrangement in one number: three bits a PLACE, PLACE 0 lowest, that say who is there.
    private static final class Row {
        static int who(int row, int p) {
            return (row >> (3 * p)) & 7;
        }

        static int ordered(int persons) {
            int row = 0;
            for (int i = 0; i < persons; i++) {
                row |= i << (3 * i);
            }
            return row;
        }

        static int swapped(int row, int p, int q) {
            int unlike = who(row, p) ^ who(row, q);
            return row ^ (unlike << (3 * p)) ^ (unlike << (3 * q));
        }

        static int placeOf(int row, int i) {
            for (int p = 0; p < MOST_PERSONS; p++) {
                if (who(row, p) == i) {
                    return p;
                }
            }
            return 0;
        }

        // The next one by who is at PLACE 0, then 1, ..; -1 behind the last.
        static int following(int row, int persons) {
            int p = persons - 2;
            while (p >= 0 && who(row, p) > who(row, p + 1)) {
                p--;
            }
            if (p < 0) {
                return -1;
            }
            int q = persons - 1;
            while (q > p && who(row, q) < who(row, p)) {
                q--;
            }
            int next = swapped(row, p, q);
            for (int low = p + 1, high = persons - 1; low < high; low++, high--) {
                next = swapped(next, low, high);
            }
            return next;
        }

        // How many arrangements come ahead of this one.
        static int rank(int row, int persons) {
            int ahead = 0;
            for (int p = 0; p < persons; p++) {
                ahead *= persons - p;
                for (int q = p + 1; q < persons; q++) {
                    if (who(row, q) < who(row, p)) {
                        ahead++;
                    }
                }
            }
            return ahead;
        }
    }

    // THE TEXT, and how it is read.
    private static final class Text {
        final int[] bytes = new int[MOST_BYTES];
        int length = 0;
        final int[] numbers = new int[3];

        boolean append(int n, long v) {
            if (length + n > MOST_BYTES) {
                return false;
            }
            for (int k = n - 1; k >= 0; k--) {
                bytes[length] = (int) (v >> (8 * k)) & 255;
                length++;
            }
            return true;
        }

        // The place of the FAULT; -1 if there is none.
        int read(Houses into) {
            into.clear();
            int place = 0;
            while (place < length) {
                int end = readItem(place, into);
                if (end <= place) {
                    return place;
                }
                place = end;
            }
            return -1;
        }

        // The place behind the ITEM; -1 if it is none.
        private int readItem(int place, Houses into) {
            int letter = bytes[place];
            int wanted = numbersOf(letter);
            if (wanted == 0) {
                return -1;
            }
            int end = readNumbers(place + 1, wanted);
            return end >= 0 && takeItem(letter, into) ? end : -1;
        }

        private static int numbersOf(int letter) {
            if (letter == 'p' || letter == 'l') {
                return 3;
            }
            return letter == 'r' ? 1 : 0;
        }

        private int readNumbers(int place, int wanted) {
            int next = place;
            for (int k = 0; k < wanted; k++) {
                int value = 0;
                int figures = 0;
                while (figures < 2 && isFigure(next)) {
                    value = 10 * value + bytes[next] - '0';
                    figures++;
                    next++;
                }
                int sign = k == wanted - 1 ? ';' : ',';
                if (figures == 0 || next >= length || bytes[next] != sign) {
                    return -1;
                }
                numbers[k] = value;
                next++;
            }
            return next;
        }

        private boolean isFigure(int place) {
            return place < length && bytes[place] >= '0' && bytes[place] <= '9';
        }

        private boolean takeItem(int letter, Houses into) {
            if (letter == 'p') {
                return into.addPerson(numbers[0], numbers[1], numbers[2]);
            }
            if (letter == 'l') {
                return into.setLiking(numbers[0], numbers[1], numbers[2]);
            }
            return into.setRing(numbers[0]);
        }
    }

    // Who lives there, and what suits whom. Rows are of 8 and 64, as three bits name a PERSON.
    private static final class Houses {
        int persons = 0;
        private boolean ring = false;
        private int highestTold = 0;
        final int[] bestPlace = new int[8];
        final int[] stepCost = new int[8];
        final int[] kind = new int[8];
        private final int[] likings = new int[64];

        Houses() {
            clear();
        }

        void clear() {
            persons = 0;
            ring = false;
            highestTold = 0;
            Arrays.fill(likings, NO_LIKING);
        }

        boolean addPerson(int b, int w, int k) {
            if (persons >= MOST_PERSONS || b >= MOST_PERSONS || w > DEAREST_STEP || k > MEEK) {
                return false;
            }
            bestPlace[persons] = b;
            stepCost[persons] = w;
            kind[persons] = k;
            persons++;
            highestTold = Math.max(highestTold, b);
            return true;
        }

        boolean setLiking(int i, int j, int v) {
            if (i >= MOST_PERSONS || j >= MOST_PERSONS || i == j) {
                return false;
            }
            likings[8 * i + j] = v;
            highestTold = Math.max(highestTold, Math.max(i, j));
            return true;
        }

        boolean setRing(int r) {
            if (r > 1) {
                return false;
            }
            ring = r == 1;
            return true;
        }

        boolean canBeLaid() {
            return persons >= 2 && highestTold < persons;
        }

        // There are as many PLACES as PERSONS, so this asks for both.
        boolean has(int number) {
            return number >= 0 && number < persons;
        }

        int changeCount() {
            return ring ? persons : persons - 1;
        }

        boolean hasChange(int x) {
            return x >= 0 && x < changeCount();
        }

        boolean hasRound(int x) {
            return persons >= 3 && x >= 0 && x < (ring ? persons : persons - 2);
        }

        int after(int x) {
            return x + 1 < persons ? x + 1 : 0;
        }

        int changed(int row, int x) {
            return Row.swapped(row, x, after(x));
        }

        int turned(int row, int x) {
            int y = after(x);
            return Row.swapped(Row.swapped(row, y, after(y)), x, y);
        }

        int liking(int i, int j) {
            return likings[8 * i + j];
        }

        int far(int x, int y) {
            int straight = x < y ? y - x : x - y;
            return ring && persons - straight < straight ? persons - straight : straight;
        }

        int worthAt(int row, int p) {
            int i = Row.who(row, p);
            int left = p > 0 ? p - 1 : persons - 1;
            int right = after(p);
            int sum = FULL_WORTH - stepCost[i] * far(p, bestPlace[i]);
            if (ring || p > 0) {
                sum += liking(i, Row.who(row, left)) - NO_LIKING;
            }
            // In a RING of two the one on the left is the one on the right, and counts once.
            if (ring ? right != left : right > p) {
                sum += liking(i, Row.who(row, right)) - NO_LIKING;
            }
            return sum;
        }

        int worthOf(int row, int i) {
            return worthAt(row, Row.placeOf(row, i));
        }

        int sumOfWorths(int row) {
            int sum = 0;
            for (int p = 0; p < persons; p++) {
                sum += worthAt(row, p);
            }
            return sum;
        }

        // What is missing for a yes; -1 if nothing brings it.
        static int missing(int kind, int gain) {
            switch (kind) {
                case PLAIN:
                    return Math.max(0, 1 - gain);
                case WILLING:
                    return Math.max(0, -gain);
                case GREEDY:
                    return Math.max(0, GREEDY_GAIN - gain);
                case FOOL:
                    return -1;
                default:
                    return 0;
            }
        }

        boolean agrees(int row, int next, int from, int to) {
            int gain = worthAt(next, to) - worthAt(row, from);
            return missing(kind[Row.who(row, from)], gain) == 0;
        }

        boolean changeSuits(int row, int x) {
            int y = after(x);
            int next = changed(row, x);
            return agrees(row, next, x, y) && agrees(row, next, y, x);
        }

        boolean roundSuits(int row, int x) {
            int y = after(x);
            int z = after(y);
            int next = turned(row, x);
            return agrees(row, next, x, y) && agrees(row, next, y, z) && agrees(row, next, z, x);
        }

        int suitingCount(int row) {
            int many = 0;
            for (int x = 0; x < changeCount(); x++) {
                if (changeSuits(row, x)) {
                    many++;
                }
            }
            return many;
        }
    }

    // Numbers one on the other, as many as there is room for.
    private static final class Pile {
        private final int[] numbers;
        int size = 0;

        Pile(int most) {
            numbers = new int[Math.max(1, most)];
        }

        boolean isFull() {
            return size >= numbers.length;
        }

        int get(int k) {
            return k >= 0 && k < size ? numbers[k] : 0;
        }

        void push(int number) {
            if (!isFull()) {
                numbers[size] = number;
                size++;
            }
        }

        int pop() {
            if (size == 0) {
                return 0;
            }
            size--;
            return numbers[size];
        }

        void dropOldest() {
            if (size > 0) {
                System.arraycopy(numbers, 1, numbers, 0, size - 1);
                size--;
            }
        }
    }

    // What was SEEN.
    private static final class Sightings {
        private final int[] who = new int[MOST_SEEN];
        private final int[] from = new int[MOST_SEEN];
        private final int[] to = new int[MOST_SEEN];
        private final boolean[] yes = new boolean[MOST_SEEN];
        int size = 0;

        boolean add(int i, int x, int y, boolean agreed) {
            if (size >= MOST_SEEN) {
                return false;
            }
            who[size] = i;
            from[size] = x;
            to[size] = y;
            yes[size] = agreed;
            size++;
            return true;
        }

        // Whether PERSON i would have said all that was SEEN of him, if his BEST PLACE were b.
        boolean allow(Houses houses, int i, int b) {
            for (int k = 0; k < size; k++) {
                int nearer = houses.far(from[k], b) - houses.far(to[k], b);
                int gain = houses.stepCost[i] * nearer;
                boolean agrees = Houses.missing(houses.kind[i], gain) == 0;
                if (who[k] == i && agrees != yes[k]) {
                    return false;
                }
            }
            return true;
        }
    }

    // GOING ON: where it ends, and behind how many CHANGES.
    private static final class Walk {
        int steps = 0;
        int end = 0;

        boolean comesToRest(Houses houses, int row) {
            int changes = houses.changeCount();
            int passed = row;
            int nextPassed = 1;
            end = row;
            for (steps = 0; steps <= MOST_GOING_ON; steps++) {
                int x = 0;
                while (x < changes && !houses.changeSuits(end, x)) {
                    x++;
                }
                if (x >= changes) {
                    return true;
                }
                end = houses.changed(end, x);
                // An arrangement that comes again comes again for ever: no need to go on to the bound.
                if (end == passed) {
                    return false;
                }
                if (steps == nextPassed) {
                    passed = end;
                    nextPassed = 2 * nextPassed + 1;
                }
            }
            return false;
        }
    }

    // All arrangements in their order, and from each by each CHANGE where it leads and who agrees;
    // drawn once for what is LAID, as most questions of REST go through all of them.
    private static final class Graph {
        private static final int LEFT_AGREES = 1, RIGHT_AGREES = 2, BOTH_AGREE = 3;

        private final int[] rows = new int[ARRANGEMENTS];
        private final int[] edges = new int[ARRANGEMENTS * MOST_PERSONS];
        private int persons = 0;
        int size = 0;
        int changes = 0;
        int restCount = 0;
        int firstRest = -1;

        void draw(Houses houses) {
            persons = houses.persons;
            changes = houses.changeCount();
            size = 0;
            int row = Row.ordered(persons);
            while (row >= 0 && size < ARRANGEMENTS) {
                rows[size] = row;
                size++;
                row = Row.following(row, persons);
            }
            for (int s = 0; s < size; s++) {
                drawEdges(houses, s);
            }
            countRests();
        }

        private void drawEdges(Houses houses, int s) {
            int row = rows[s];
            for (int x = 0; x < changes; x++) {
                int y = houses.after(x);
                int next = houses.changed(row, x);
                int edge = Row.rank(next, persons) << 2;
                if (houses.agrees(row, next, x, y)) {
                    edge |= LEFT_AGREES;
                }
                if (houses.agrees(row, next, y, x)) {
                    edge |= RIGHT_AGREES;
                }
                edges[s * MOST_PERSONS + x] = edge;
            }
        }

        private void countRests() {
            restCount = 0;
            firstRest = -1;
            for (int s = size - 1; s >= 0; s--) {
                if (isRest(s)) {
                    restCount++;
                    firstRest = s;
                }
            }
        }

        int rowOf(int s) {
            return s >= 0 && s < size ? rows[s] : 0;
        }

        int stateOf(int row) {
            int s = Row.rank(row, persons);
            return s < size ? s : 0;
        }

        boolean isRest(int s) {
            for (int x = 0; x < changes; x++) {
                if (leadsTo(s, x, NOBODY) >= 0) {
                    return false;
                }
            }
            return true;
        }

        // Where CHANGE x leads from s, if PERSON meek were MEEK; -1 if it does not SUIT.
        int leadsTo(int s, int x, int meek) {
            if (s < 0 || s >= size || x < 0 || x >= changes) {
                return -1;
            }
            int edge = edges[s * MOST_PERSONS + x];
            int agree = edge & BOTH_AGREE;
            if (agree != BOTH_AGREE && meek != NOBODY) {
                int y = x + 1 < persons ? x + 1 : 0;
                agree |= Row.who(rows[s], x) == meek ? LEFT_AGREES : 0;
                agree |= Row.who(rows[s], y) == meek ? RIGHT_AGREES : 0;
            }
            int to = edge >> 2;
            return agree == BOTH_AGREE && to < size ? to : -1;
        }
    }

    // The arrangements that can be come to, the nearest first.
    private static final class Search {
        private final int[] queue = new int[ARRANGEMENTS];
        private final int[] steps = new int[ARRANGEMENTS];
        private final int[] firsts = new int[ARRANGEMENTS];
        private final int[] waysIn = new int[ARRANGEMENTS];
        private int reached = 0;

        // As CHANGES are tried from the lowest on and the queue keeps that order, whoever finds an
        // arrangement first finds it by the lowest first CHANGE of all shortest ways.
        void spread(Graph graph, int start, int meek) {
            Arrays.fill(steps, -1);
            reached = 0;
            reach(start, 0, 0);
            for (int k = 0; k < reached && k < ARRANGEMENTS; k++) {
                int s = queue[k];
                for (int x = 0; x < graph.changes; x++) {
                    reach(graph.leadsTo(s, x, meek), steps[s] + 1, k == 0 ? x : firsts[s]);
                }
            }
        }

        private void reach(int s, int many, int first) {
            if (s >= 0 && s < ARRANGEMENTS && steps[s] < 0 && reached < ARRANGEMENTS) {
                steps[s] = many;
                firsts[s] = first;
                queue[reached] = s;
                reached++;
            }
        }

        int stepsTo(int s) {
            return s >= 0 && s < ARRANGEMENTS ? steps[s] : -1;
        }

        int firstTo(int s) {
            return s >= 0 && s < ARRANGEMENTS ? firsts[s] : -1;
        }

        int nearestRest(Graph graph) {
            for (int k = 0; k < reached; k++) {
                if (graph.isRest(queue[k])) {
                    return queue[k];
                }
            }
            return -1;
        }

        int nearestWith(Graph graph, int i, int p) {
            for (int k = 0; k < reached; k++) {
                if (Row.who(graph.rowOf(queue[k]), p) == i) {
                    return queue[k];
                }
            }
            return -1;
        }

        // -1 if there is a way without end.
        int longestFrom(Graph graph, int start) {
            spread(graph, start, NOBODY);
            countWaysIn(graph);
            int all = reached;
            int most = 0;
            // Only the start, the queue's first, is ready at once, if no way leads back to it; any
            // other is ready when all ways into it are gone through, and on a circle none ever is.
            reached = all > 0 && waysIn[queue[0]] == 0 ? 1 : 0;
            for (int k = 0; k < reached && k < ARRANGEMENTS; k++) {
                int s = queue[k];
                most = Math.max(most, steps[s]);
                for (int x = 0; x < graph.changes; x++) {
                    goThrough(graph.leadsTo(s, x, NOBODY), steps[s] + 1);
                }
            }
            return reached == all ? most : -1;
        }

        private void countWaysIn(Graph graph) {
            Arrays.fill(waysIn, 0);
            for (int k = 0; k < reached; k++) {
                for (int x = 0; x < graph.changes; x++) {
                    int t = graph.leadsTo(queue[k], x, NOBODY);
                    if (t >= 0) {
                        waysIn[t]++;
                    }
                }
            }
        }

        private void goThrough(int s, int many) {
            if (s < 0 || s >= ARRANGEMENTS) {
                return;
            }
            steps[s] = Math.max(steps[s], many);
            waysIn[s]--;
            if (waysIn[s] == 0 && reached < ARRANGEMENTS) {
                queue[reached] = s;
                reached++;
            }
        }
    }

    // By CHANCE: in how many of all equally likely runs of evenings each arrangement is come to.
    private static final class Evenings {
        private int[] now = new int[ARRANGEMENTS];
        private int[] then = new int[ARRANGEMENTS];
        int above = 0;
        int below = 1;

        void pass(Graph graph, int start, int n) {
            Arrays.fill(now, 0);
            below = 1;
            if (start >= 0 && start < ARRANGEMENTS) {
                now[start] = 1;
            }
            for (int k = 0; k < n; k++) {
                passOne(graph);
                below *= graph.changes;
            }
        }

        private void passOne(Graph graph) {
            Arrays.fill(then, 0);
            for (int s = 0; s < graph.size; s++) {
                for (int x = 0; x < graph.changes && now[s] > 0; x++) {
                    int t = graph.leadsTo(s, x, NOBODY);
                    then[t >= 0 ? t : s] += now[s];
                }
            }
            int[] other = now;
            now = then;
            then = other;
        }

        void takeMean(Graph graph, Houses houses, int i) {
            above = 0;
            for (int s = 0; s < graph.size; s++) {
                if (now[s] > 0) {
                    above += now[s] * houses.worthOf(graph.rowOf(s), i);
                }
            }
            int shared = commonDivisor(Math.abs(above), below);
            if (shared > 1) {
                above /= shared;
                below /= shared;
            }
        }

        private static int commonDivisor(int a, int b) {
            int high = a;
            int low = b;
            for (int k = 0; k < 64 && low != 0; k++) {
                int rest = high % low;
                high = low;
                low = rest;
            }
            return high;
        }
    }
}
