import java.math.BigInteger;
import java.util.ArrayDeque;
import java.util.ArrayList;
import java.util.Arrays;
import java.util.Collections;
import java.util.HashMap;
import java.util.HashSet;
import java.util.List;
import java.util.Map;
import java.util.Random;
import java.util.Set;
import java.util.regex.Matcher;
import java.util.regex.Pattern;

// Long runs of drawn calls on the class and on a second, plain writing of the document.
public final class ModelTest {
    private static final int BAD = -1, NO = -2, FULL = -3, NONE = -4;
    private static final int RUNS = Integer.getInteger("runs", 800);
    private static final int CALLS = 512;
    private static final int[] ODD = {-1, -2, -4, 6, 7, 8, 100, Integer.MIN_VALUE, Integer.MAX_VALUE};

    public static void main(String[] args) {
        int wrong = 0;
        Map<String, Integer> answers = new HashMap<>();
        for (int run = 0; run < RUNS && wrong < 20; run++) {
            wrong += compare(run, answers);
        }
        wrong += missing(answers);
        System.out.println(wrong == 0 ? "class and model agree" : wrong + " answers are not as due");
        if (wrong != 0) {
            System.exit(1);
        }
    }

    private static int compare(int run, Map<String, Integer> answers) {
        Random random = new Random(7001L + run);
        BothWould real = new BothWould();
        Model model = new Model();
        List<int[]> plan = new ArrayList<>();
        for (int k = 0; k < CALLS; k++) {
            long v = 0;
            int[] c;
            if (plan.isEmpty() && (k == 0 && random.nextInt(4) > 0 || random.nextInt(110) == 0)) {
                planText(random, plan);
            }
            if (plan.isEmpty()) {
                c = drawCall(random, model);
                v = random.nextLong();
            } else {
                c = plan.remove(0);
                v = ((long) c[5] << 32) | (c[6] & 0xffffffffL);
            }
            int want = model.call(c, v);
            int got;
            try {
                got = call(real, c, v);
            } catch (RuntimeException e) {
                System.out.println("run " + run + " call " + k + " " + Arrays.toString(c) + " threw " + e);
                return 1;
            }
            String kind = want >= 0 ? "number" : "" + want;
            answers.merge(c[0] + ":" + kind, 1, Integer::sum);
            if (got != want) {
                System.out.println("run " + run + " call " + k + ": " + name(c) + " answered " + got + ", due is " + want
                    + " with text " + model.laidText + " row " + model.row);
                return 1;
            }
        }
        return 0;
    }

    // A run that never meets an answer proves nothing of it.
    private static int missing(Map<String, Integer> answers) {
        String[] due = {"0:number", "0:-1", "0:-3", "1:number", "2:number", "2:-4", "3:number", "3:-2", "4:number", "4:-1",
            "5:number", "5:-1", "6:number", "6:-1", "7:number", "7:-1", "8:number", "8:-1", "9:number", "9:-1", "9:-2",
            "10:number", "10:-1", "10:-2", "11:number", "11:-2", "12:number", "12:-1", "12:-3", "13:number",
            "14:number", "14:-4", "15:number", "15:-1", "15:-4", "16:number", "16:-1", "16:-4", "17:number", "17:-4",
            "18:number", "18:-1", "18:-4", "19:number", "19:-1", "19:-4", "20:number", "20:-1", "20:-4",
            "21:number", "21:-1", "22:number", "22:-1", "22:-4", "23:number", "23:-1", "24:number", "24:-1", "24:-4",
            "25:number", "25:-1", "25:-3", "26:number", "27:number", "27:-1", "27:-4", "28:number", "28:-1",
            "29:number", "29:-3", "30:number", "30:-2", "31:number", "31:-1"};
        int wrong = 0;
        for (String d : due) {
            if (!answers.containsKey(d)) {
                System.out.println("no run met answer " + d);
                wrong++;
            }
        }
        return wrong;
    }

    private static final String[] NAMES = {"write", "wipe", "fault", "lay", "person", "likes", "worth", "at", "suits",
        "change", "round", "undo", "tell", "noRow", "judge", "rests", "goingOn", "longest", "shortest", "comes", "bars",
        "best", "price", "deal", "lie", "seen", "forget", "fits", "mean", "keep", "back", "count"};

    private static String name(int[] c) {
        return NAMES[c[0]] + Arrays.toString(Arrays.copyOfRange(c, 1, 5));
    }

    private static int call(BothWould b, int[] c, long v) {
        switch (c[0]) {
            case 0: return b.write(c[1], v);
            case 1: return b.wipe();
            case 2: return b.fault();
            case 3: return b.lay();
            case 4: return b.person(c[1], c[2]);
            case 5: return b.likes(c[1], c[2]);
            case 6: return b.worth(c[1]);
            case 7: return b.at(c[1]);
            case 8: return b.suits(c[1], c[2] > 0);
            case 9: return b.change(c[1]);
            case 10: return b.round(c[1]);
            case 11: return b.undo();
            case 12: return b.tell(c[1]);
            case 13: return b.noRow();
            case 14: return b.judge();
            case 15: return b.rests(c[1]);
            case 16: return b.goingOn(c[1]);
            case 17: return b.longest();
            case 18: return b.shortest(c[1]);
            case 19: return b.comes(c[1], c[2], c[3]);
            case 20: return b.bars(c[1], c[2]);
            case 21: return b.best(c[1]);
            case 22: return b.price(c[1], c[2]);
            case 23: return b.deal(c[1]);
            case 24: return b.lie(c[1], c[2]);
            case 25: return b.seen(c[1], c[2], c[3], c[4] > 0);
            case 26: return b.forget();
            case 27: return b.fits(c[1], c[2]);
            case 28: return b.mean(c[1], c[2], c[3]);
            case 29: return b.keep();
            case 30: return b.back();
            default: return b.count(c[1]);
        }
    }

    private static int number(Random random, int below) {
        if (random.nextInt(25) == 0) {
            return ODD[random.nextInt(ODD.length)];
        }
        return random.nextInt(below + (random.nextInt(8) == 0 ? 1 : 0));
    }

    private static int[] drawCall(Random random, Model m) {
        int n = m.n;
        int[] c = new int[7];
        int what = random.nextInt(48);
        // Calls that do something come more often than each question; a text once begun may go on.
        c[0] = what < 32 ? what : what < 39 ? 9 : what < 42 ? 10 : what < 44 ? 12 : what < 46 ? 25 : 14;
        if (m.text.length() > 150 && random.nextInt(4) == 0) {
            c[0] = 0;
        }
        if ((c[0] == 1 || c[0] == 3) && random.nextInt(6) > 0 || c[0] == 26 && random.nextInt(3) > 0) {
            c[0] = 17;
        }
        switch (c[0]) {
            case 0: c[1] = number(random, 9); break;
            case 4: c[1] = number(random, n); c[2] = number(random, 4); break;
            case 8: c[1] = number(random, n); c[2] = random.nextInt(2); break;
            case 15: case 16: case 21: c[1] = random.nextInt(3) == 0 ? -1 : number(random, n); break;
            case 18: c[1] = number(random, 2); break;
            case 19: c[1] = number(random, n); c[2] = number(random, n); c[3] = number(random, 2); break;
            case 22: case 24: case 27: c[1] = number(random, n); c[2] = number(random, 2); break;
            case 25: c[1] = number(random, n); c[2] = number(random, n); c[3] = number(random, n);
                c[4] = random.nextInt(2); break;
            case 28: c[1] = number(random, n); c[2] = number(random, n == 6 ? 4 : 7); c[3] = number(random, 2); break;
            case 31: c[1] = number(random, 8); break;
            default: c[1] = number(random, n); c[2] = number(random, n);
        }
        return c;
    }

    private static void planText(Random random, List<int[]> plan) {
        String text = drawText(random);
        // Without the wipe texts pile up, until THE TEXT is full.
        if (random.nextInt(3) > 0) {
            plan.add(new int[] {1, 0, 0, 0, 0, 0, 0});
        }
        for (int k = 0; k < text.length(); ) {
            int n = Math.min(1 + random.nextInt(8), text.length() - k);
            long v = n < 8 ? random.nextLong() << (8 * n) : 0;
            for (int q = 0; q < n; q++) {
                v |= (text.charAt(k + q) & 255L) << (8 * (n - 1 - q));
            }
            plan.add(new int[] {0, n, 0, 0, 0, (int) (v >> 32), (int) v});
            k += n;
        }
        plan.add(new int[] {2, 0, 0, 0, 0, 0, 0});
        plan.add(new int[] {3, 0, 0, 0, 0, 0, 0});
    }

    private static String drawText(Random random) {
        int n = random.nextInt(3) == 0 ? 2 + random.nextInt(5) : 2 + random.nextInt(4);
        int mood = random.nextInt(5);
        int steps = random.nextBoolean() ? 21 : 6;
        List<String> items = new ArrayList<>();
        for (int i = 0; i < n; i++) {
            int kind = mood == 0 ? random.nextInt(2) : mood == 1 ? random.nextInt(5)
                : mood == 2 ? random.nextInt(2) * 4 : mood == 3 ? 0 : random.nextInt(3);
            items.add("p" + figure(random, random.nextInt(n)) + "," + figure(random, random.nextInt(steps)) + "," + kind + ";");
        }
        int likes = random.nextInt(3) == 0 ? 0 : random.nextInt(2 * n);
        for (int k = 0; k < likes; k++) {
            int i = random.nextInt(n);
            int j = (i + 1 + random.nextInt(n - 1)) % n;
            int like = random.nextBoolean() ? random.nextInt(100) : 40 + random.nextInt(21);
            items.add("l" + i + "," + j + "," + figure(random, like) + ";");
        }
        if (random.nextInt(2) == 0) {
            items.add("r" + random.nextInt(2) + ";");
        }
        if (random.nextInt(3) == 0) {
            Collections.shuffle(items, random);
        }
        StringBuilder text = new StringBuilder(String.join("", items));
        if (random.nextInt(4) == 0) {
            spoil(random, text);
        }
        return text.toString();
    }

    private static String figure(Random random, int value) {
        return value < 10 && random.nextInt(12) == 0 ? "0" + value : "" + value;
    }

    private static void spoil(Random random, StringBuilder text) {
        int place = random.nextInt(text.length());
        String signs = "plr0123456789,;,;x";
        switch (random.nextInt(4)) {
            case 0: text.deleteCharAt(place); break;
            case 1: text.insert(place, signs.charAt(random.nextInt(signs.length()))); break;
            case 2: text.setCharAt(place, signs.charAt(random.nextInt(signs.length()))); break;
            default: text.setCharAt(place, (char) random.nextInt(256));
        }
    }

    // The document once more: lists and maps, every way tried, nothing shared with the class.
    private static final class Model {
        StringBuilder text = new StringBuilder();
        String laidText = "p1,5,0;p0,5,0;";
        int n;
        boolean ring;
        List<int[]> people;
        int[][] like;
        List<Integer> row;
        List<Integer> told = new ArrayList<>();
        List<int[]> seen = new ArrayList<>();
        List<List<Integer>> undo = new ArrayList<>();
        List<List<Integer>> kept = new ArrayList<>();
        List<List<Integer>> all;
        Map<List<Integer>, boolean[]> suitMap = new HashMap<>();

        Model() {
            layDown(laidText);
        }

        int call(int[] c, long v) {
            int a = c[1], b = c[2], d = c[3];
            switch (c[0]) {
                case 0: return write(a, v);
                case 1: { int was = text.length(); text.setLength(0); return was; }
                case 2: return fault(text.toString());
                case 3: return lay();
                case 4: return !is(a) || b < 0 || b > 3 ? BAD : b == 3 ? row.indexOf(a) : people.get(a)[b];
                case 5: return !is(a) || !is(b) || a == b ? BAD : like[a][b] + 50;
                case 6: return !is(a) ? BAD : worth(row, a) + 1000;
                case 7: return !is(a) ? BAD : row.get(a);
                case 8: return !isMove(a, b > 0) ? BAD : agreed(row, a, b > 0 ? 3 : 2) ? 1 : 0;
                case 9: return move(a, 2);
                case 10: return move(a, 3);
                case 11: if (undo.isEmpty()) return NO; row = undo.remove(undo.size() - 1); return undo.size();
                case 12: if (!isMove(a, false)) return BAD; if (told.size() == 12) return FULL; told.add(a); return told.size();
                case 13: { int was = told.size(); told.clear(); return was; }
                case 14: return judge();
                case 15: return rests(a);
                case 16: return goingOn(a);
                case 17: return longest();
                case 18: return b(a) ? way(-1, -1, a) : BAD;
                case 19: return is(a) && is(b) && b(d) ? way(a, b, d) : BAD;
                case 20: return bars(a, b);
                case 21: return best(a);
                case 22: return !isMove(a, false) || !b(b) ? BAD : price(a, b);
                case 23: return deal(a);
                case 24: return lie(a, b);
                case 25: return see(a, b, d, c[4]);
                case 26: { int was = seen.size(); seen.clear(); return was; }
                case 27: return fits(a, b);
                case 28: return mean(a, b, d);
                case 29: if (kept.size() == 2) return FULL; kept.add(row); return kept.size();
                case 30: if (kept.isEmpty()) return NO; row = kept.remove(kept.size() - 1); undo.clear(); return kept.size();
                default: return count(a);
            }
        }

        static boolean b(int what) {
            return what == 0 || what == 1;
        }

        boolean is(int i) {
            return 0 <= i && i < n;
        }

        boolean isMove(int x, boolean three) {
            if (!is(x) || three && n < 3) {
                return false;
            }
            return ring || x + (three ? 2 : 1) < n;
        }

        int write(int k, long v) {
            if (k < 1 || k > 8) {
                return BAD;
            }
            if (text.length() + k > 300) {
                return FULL;
            }
            byte[] bytes = java.nio.ByteBuffer.allocate(8).putLong(v).array();
            for (int q = 8 - k; q < 8; q++) {
                text.append((char) (bytes[q] & 255));
            }
            return text.length();
        }

        static final Pattern ITEM = Pattern.compile(
            "\\G(?:(p)0?([0-5]),([01]?[0-9]|20),0?([0-4]);|(l)0?([0-5]),0?([0-5]),([0-9]{1,2});|(r)0?([01]);)");

        static int fault(String t) {
            Matcher m = ITEM.matcher(t);
            int end = 0;
            int persons = 0;
            while (end < t.length()) {
                if (!m.find(end)) {
                    return end;
                }
                if (m.group(1) != null && ++persons > 6) {
                    return end;
                }
                if (m.group(5) != null && m.group(6).equals(m.group(7))) {
                    return end;
                }
                end = m.end();
            }
            return NONE;
        }

        int lay() {
            String t = text.toString();
            if (fault(t) != NONE) {
                return NO;
            }
            int persons = (int) t.chars().filter(ch -> ch == 'p').count();
            if (persons < 2) {
                return NO;
            }
            for (String item : t.split(";")) {
                String[] parts = item.substring(1).split(",");
                boolean far = item.charAt(0) == 'p' && Integer.parseInt(parts[0]) >= persons
                    || item.charAt(0) == 'l' && Math.max(Integer.parseInt(parts[0]), Integer.parseInt(parts[1])) >= persons;
                if (far) {
                    return NO;
                }
            }
            layDown(t);
            return n;
        }

        void layDown(String t) {
            laidText = t;
            people = new ArrayList<>();
            like = new int[6][6];
            ring = false;
            for (String item : t.split(";")) {
                int[] v = Arrays.stream(item.substring(1).split(",")).mapToInt(Integer::parseInt).toArray();
                if (item.charAt(0) == 'p') {
                    people.add(v);
                } else if (item.charAt(0) == 'l') {
                    like[v[0]][v[1]] = v[2] - 50;
                } else {
                    ring = v[0] == 1;
                }
            }
            n = people.size();
            all = new ArrayList<>();
            permute(new ArrayList<>());
            row = all.get(0);
            told.clear();
            seen.clear();
            undo.clear();
            kept.clear();
            suitMap.clear();
        }

        void permute(List<Integer> begun) {
            if (begun.size() == n) {
                all.add(begun);
            }
            for (int i = 0; i < n; i++) {
                if (!begun.contains(i)) {
                    List<Integer> more = new ArrayList<>(begun);
                    more.add(i);
                    permute(more);
                }
            }
        }

        int far(int x, int y) {
            if (!ring) {
                return Math.abs(x - y);
            }
            int up = 0;
            int down = 0;
            while ((x + up) % n != y) {
                up++;
            }
            while ((y + down) % n != x) {
                down++;
            }
            return Math.min(up, down);
        }

        int worth(List<Integer> r, int i) {
            int p = r.indexOf(i);
            Set<Integer> beside = new HashSet<>();
            for (int d = -1; d <= 1; d += 2) {
                if (ring || is(p + d)) {
                    beside.add((p + d + n) % n);
                }
            }
            int w = 100 - people.get(i)[1] * far(p, people.get(i)[0]);
            for (int q : beside) {
                w += like[i][r.get(q)];
            }
            return w;
        }

        List<Integer> moved(List<Integer> r, int x, int many) {
            List<Integer> next = new ArrayList<>(r);
            for (int k = 0; k < many; k++) {
                next.set((x + (k + 1) % many) % n, r.get((x + k) % n));
            }
            return next;
        }

        static boolean yes(int kind, int before, int behind) {
            return kind == 0 && behind > before || kind == 1 && behind >= before || kind == 2 && behind >= before + 10 || kind == 4;
        }

        boolean agreed(List<Integer> r, int x, int many) {
            List<Integer> next = moved(r, x, many);
            for (int k = 0; k < many; k++) {
                int i = r.get((x + k) % n);
                if (!yes(people.get(i)[2], worth(r, i), worth(next, i))) {
                    return false;
                }
            }
            return true;
        }

        boolean suit(List<Integer> r, int x) {
            boolean[] known = suitMap.get(r);
            if (known == null) {
                known = new boolean[n];
                for (int y = 0; y < n; y++) {
                    known[y] = isMove(y, false) && agreed(r, y, 2);
                }
                suitMap.put(r, known);
            }
            return known[x];
        }

        boolean rest(List<Integer> r) {
            for (int x = 0; x < n; x++) {
                if (suit(r, x)) {
                    return false;
                }
            }
            return true;
        }

        int move(int x, int many) {
            if (!isMove(x, many == 3)) {
                return BAD;
            }
            if (!agreed(row, x, many)) {
                return NO;
            }
            undo.add(row);
            if (undo.size() > 8) {
                undo.remove(0);
            }
            row = moved(row, x, many);
            return row.get(x);
        }

        int judge() {
            List<Integer> r = row;
            for (int k = 0; k < told.size(); k++) {
                if (!suit(r, told.get(k))) {
                    return k;
                }
                r = moved(r, told.get(k), 2);
            }
            return NONE;
        }

        int rests(int p) {
            if (p != -1 && !is(p)) {
                return BAD;
            }
            List<List<Integer>> found = new ArrayList<>();
            for (List<Integer> r : all) {
                if (rest(r)) {
                    found.add(r);
                }
            }
            return p == -1 ? found.size() : found.isEmpty() ? NONE : found.get(0).get(p);
        }

        List<List<Integer>> goOn() {
            List<List<Integer>> way = new ArrayList<>();
            List<Integer> r = row;
            while (way.size() <= 1000) {
                way.add(r);
                if (rest(r)) {
                    return way;
                }
                int x = 0;
                while (!suit(r, x)) {
                    x++;
                }
                r = moved(r, x, 2);
            }
            return null;
        }

        int goingOn(int p) {
            if (p != -1 && !is(p)) {
                return BAD;
            }
            List<List<Integer>> way = goOn();
            return way == null ? NONE : p == -1 ? way.size() - 1 : way.get(way.size() - 1).get(p);
        }

        int longest() {
            Map<List<Integer>, Integer> known = new HashMap<>();
            return longestFrom(row, known);
        }

        int longestFrom(List<Integer> r, Map<List<Integer>, Integer> known) {
            if (known.containsKey(r)) {
                return known.get(r);
            }
            known.put(r, NONE);
            int most = 0;
            for (int x = 0; x < n; x++) {
                if (suit(r, x)) {
                    int more = longestFrom(moved(r, x, 2), known);
                    if (more == NONE) {
                        return NONE;
                    }
                    most = Math.max(most, more + 1);
                }
            }
            known.put(r, most);
            return most;
        }

        boolean isEnd(List<Integer> r, int i, int p) {
            return i < 0 ? rest(r) : r.get(p) == i;
        }

        int distance(List<Integer> from, int i, int p) {
            Map<List<Integer>, Integer> dist = new HashMap<>();
            ArrayDeque<List<Integer>> open = new ArrayDeque<>();
            dist.put(from, 0);
            open.add(from);
            while (!open.isEmpty()) {
                List<Integer> r = open.poll();
                if (isEnd(r, i, p)) {
                    return dist.get(r);
                }
                for (int x = 0; x < n; x++) {
                    if (suit(r, x)) {
                        List<Integer> next = moved(r, x, 2);
                        if (!dist.containsKey(next)) {
                            dist.put(next, dist.get(r) + 1);
                            open.add(next);
                        }
                    }
                }
            }
            return NONE;
        }

        // The first CHANGE is the lowest behind which one CHANGE less is left.
        int way(int i, int p, int what) {
            int many = distance(row, i, p);
            if (many == NONE || what == 0) {
                return many;
            }
            for (int x = 0; x < n && many > 0; x++) {
                if (suit(row, x) && distance(moved(row, x, 2), i, p) == many - 1) {
                    return x;
                }
            }
            return NONE;
        }

        int bars(int i, int p) {
            if (!is(i) || !is(p)) {
                return BAD;
            }
            if (distance(row, i, p) != NONE) {
                return NONE;
            }
            int found = NONE;
            for (int j = 0; j < n && found == NONE; j++) {
                if (j != i) {
                    int[] was = people.get(j);
                    suitMap.clear();
                    people.set(j, new int[] {was[0], was[1], 4});
                    if (distance(row, i, p) != NONE) {
                        found = j;
                    }
                    people.set(j, was);
                    suitMap.clear();
                }
            }
            return found;
        }

        int best(int p) {
            if (p != -1 && !is(p)) {
                return BAD;
            }
            List<Integer> top = null;
            int most = Integer.MIN_VALUE;
            for (List<Integer> r : all) {
                int sum = 0;
                for (int i = 0; i < n; i++) {
                    sum += worth(r, i);
                }
                if (sum > most) {
                    most = sum;
                    top = r;
                }
            }
            return p == -1 ? most + 10000 : top.get(p);
        }

        // Tries one price behind the other.
        int price(int x, int which) {
            List<Integer> next = moved(row, x, 2);
            int i = row.get((x + which) % n);
            for (int more = 0; more < 2000; more++) {
                if (yes(people.get(i)[2], worth(row, i), worth(next, i) + more)) {
                    return more;
                }
            }
            return NONE;
        }

        int deal(int x) {
            if (!isMove(x, false)) {
                return BAD;
            }
            for (int which = 0; which < 2; which++) {
                int i = row.get((x + which) % n);
                int more = worth(moved(row, x, 2), i) - worth(row, i);
                int other = price(x, 1 - which);
                if (price(x, which) == 0 && other != NONE && more > other) {
                    return 1;
                }
            }
            return 0;
        }

        int lie(int i, int what) {
            if (!is(i) || !b(what)) {
                return BAD;
            }
            int[] was = people.get(i);
            Integer truth = null;
            Integer top = null;
            int said = NONE;
            for (int b = 0; b < n; b++) {
                suitMap.clear();
                people.set(i, new int[] {b, was[1], was[2]});
                List<List<Integer>> way = goOn();
                people.set(i, was);
                if (way != null) {
                    int w = worth(way.get(way.size() - 1), i);
                    if (b == was[0]) {
                        truth = w;
                    }
                    if (top == null || w > top) {
                        top = w;
                        said = b;
                    }
                }
            }
            suitMap.clear();
            return truth == null ? NONE : what == 0 ? said : top - truth;
        }

        int see(int i, int x, int y, int agreed) {
            if (!is(i) || !is(x) || !is(y) || x == y) {
                return BAD;
            }
            if (seen.size() == 8) {
                return FULL;
            }
            seen.add(new int[] {i, x, y, agreed});
            return seen.size();
        }

        int fits(int i, int what) {
            if (!is(i) || !b(what)) {
                return BAD;
            }
            List<Integer> fit = new ArrayList<>();
            for (int b = 0; b < n; b++) {
                boolean ok = true;
                for (int[] s : seen) {
                    int w = people.get(i)[1];
                    boolean said = yes(people.get(i)[2], 100 - w * far(s[1], b), 100 - w * far(s[2], b));
                    ok &= s[0] != i || said == (s[3] > 0);
                }
                if (ok) {
                    fit.add(b);
                }
            }
            return what == 0 ? fit.size() : fit.isEmpty() ? NONE : fit.get(0);
        }

        // Every run of evenings by itself.
        int sumOver(List<Integer> r, int i, int evenings) {
            if (evenings == 0) {
                return worth(r, i);
            }
            int sum = 0;
            for (int x = 0; x < n; x++) {
                if (isMove(x, false)) {
                    sum += sumOver(suit(r, x) ? moved(r, x, 2) : r, i, evenings - 1);
                }
            }
            return sum;
        }

        int mean(int i, int evenings, int part) {
            if (!is(i) || evenings < 0 || evenings > 6 || !b(part)) {
                return BAD;
            }
            BigInteger below = BigInteger.valueOf(ring ? n : n - 1).pow(evenings);
            BigInteger above = BigInteger.valueOf(sumOver(row, i, evenings));
            BigInteger shared = above.gcd(below);
            return part == 0 ? above.divide(shared).intValueExact() + 100000000 : below.divide(shared).intValueExact();
        }

        int count(int what) {
            int changes = 0;
            int suiting = 0;
            for (int x = 0; x < n; x++) {
                changes += isMove(x, false) ? 1 : 0;
                suiting += suit(row, x) ? 1 : 0;
            }
            int[] counts = {n, changes, suiting, told.size(), seen.size(), undo.size(), kept.size(), text.length()};
            return what < 0 || what > 7 ? BAD : counts[what];
        }
    }
}
