import java.io.IOException;
import java.nio.charset.StandardCharsets;
import java.nio.file.Files;
import java.nio.file.Path;
import java.util.ArrayList;
import java.util.Arrays;
import java.util.List;
import java.util.function.Supplier;

// What the boundary tests share: each test bears the sentence of the document that it holds, and
// a refused call is followed by all that the other calls show.
final class Bounds {
    static final int BAD = BothWould.BAD, NO = BothWould.NO, FULL = BothWould.FULL, NONE = BothWould.NONE;
    static final int MIN = Integer.MIN_VALUE, MAX = Integer.MAX_VALUE;

    static final String MEEK_TWO = "p0,0,4;p0,0,4;";
    static final String MEEK_THREE = "p0,0,4;p0,0,4;p0,0,4;";
    // 0 wants PLACE 2, 1 is MEEK, 2 wants PLACE 1. CHANGE 1 leads to REST at once (0 2 1); CHANGE 0
    // leads to 1 0 2, from where CHANGE 1 leads to REST (1 2 0). At REST are just these two.
    static final String TWO_WAYS = "p2,2,0;p1,0,4;p1,3,0;";
    // No CHANGE suits (1 loses by CHANGE 0, the GREEDY gains but 5 by CHANGE 1), but the ROUND does.
    static final String ONLY_ROUND = "p1,5,0;p2,5,0;p0,5,2;";

    private static final Path DOCUMENT = Path.of("../shared/DOC.md");
    private static String document = null;
    private static String sentence = "";
    private static int tests = 0;
    private static int wrong = 0;

    interface Call {
        int on(BothWould b);
    }

    interface Numbers {
        int on(BothWould b, int[] v);
    }

    interface Size {
        void of(Supplier<BothWould> state, int n, boolean ring);
    }

    // The sentence is quoted as the document has it, so that a name can't drift away from it.
    static void sentence(String promise, String quote, Runnable test) {
        sentence = promise + ", \"" + quote + "\"";
        tests++;
        if (!plain(document()).contains(plain(quote))) {
            fail("the document does not say so");
        }
        test.run();
    }

    static String document() {
        if (document == null) {
            try {
                document = Files.readString(DOCUMENT, StandardCharsets.UTF_8);
            } catch (IOException e) {
                throw new IllegalStateException("no " + DOCUMENT, e);
            }
        }
        return document;
    }

    static String plain(String text) {
        return text.replaceAll("\\s+", " ").trim();
    }

    static void fail(String what) {
        wrong++;
        System.out.println(sentence + ": " + what);
    }

    static void due(String call, int got, int want) {
        if (got != want) {
            fail(call + " answered " + got + ", due is " + want);
        }
    }

    static void end() {
        System.out.println(wrong == 0 ? tests + " sentences hold" : wrong + " answers are not as due");
        if (wrong != 0) {
            System.exit(1);
        }
    }

    // ---- objects in a state

    static void write(BothWould b, String text) {
        for (int k = 0; k < text.length(); k += 8) {
            int n = Math.min(8, text.length() - k);
            long v = 0;
            for (int q = 0; q < n; q++) {
                v = v << 8 | text.charAt(k + q) & 255;
            }
            b.write(n, v);
        }
    }

    static BothWould written(String text) {
        BothWould b = new BothWould();
        write(b, text);
        if (b.count(7) != text.length()) {
            fail(text + " is not written: " + b.count(7));
        }
        return b;
    }

    static BothWould laid(String text) {
        BothWould b = written(text);
        int persons = b.lay();
        if (persons < 2) {
            fail(text + " is not laid: " + persons);
        }
        return b;
    }

    static int faultOf(String text) {
        return written(text).fault();
    }

    static int layOf(String text) {
        return written(text).lay();
    }

    static String meek(int n, boolean ring) {
        return "p0,0,4;".repeat(n) + (ring ? "r1;" : "");
    }

    static String fools(int n, boolean ring) {
        return "p0,0,3;".repeat(n) + (ring ? "r1;" : "");
    }

    // From the fewest to the most, in a ROW and in a RING; all always agree.
    static void sizes(Size test) {
        for (int n = 2; n <= 6; n++) {
            for (boolean ring : new boolean[] {false, true}) {
                String text = meek(n, ring);
                test.of(() -> laid(text), n, ring);
            }
        }
    }

    // One of a KIND who gains so much by CHANGE SIDE_X, where he is at x (SIDE 0) or at the other PLACE,
    // by a MEEK one: in a ROW of three, or at the end of a RING of four.
    static final int SIDES = 4;
    static final int[] SIDE_X = {0, 1, 3, 3};
    static final int[] SIDE = {0, 1, 0, 1};

    static BothWould gaining(int kind, int gain, int side) {
        int self = new int[] {0, 2, 3, 0}[side];
        int nearer = new int[] {1, 1, 0, 3}[side];
        int newBeside = new int[] {2, 0, 1, 2}[side];
        int n = side < 2 ? 3 : 4;
        int byLiking = Math.max(-50, Math.min(49, gain));
        int byPlace = gain - byLiking;
        StringBuilder text = new StringBuilder(n == 4 ? "r1;" : "");
        for (int i = 0; i < n; i++) {
            int best = byPlace < 0 ? self : nearer;
            text.append(i == self ? "p" + best + "," + Math.abs(byPlace) + "," + kind + ";" : "p0,0,4;");
        }
        text.append("l" + self + "," + newBeside + "," + (50 + byLiking) + ";");
        return laid(text.toString());
    }

    // ---- arrangements

    // All of them, by who is at PLACE 0, then 1, ..
    static List<int[]> arrangements(int n) {
        List<int[]> all = new ArrayList<>();
        int most = (int) Math.pow(n, n);
        for (int code = 0; code < most; code++) {
            int[] who = new int[n];
            int there = 0;
            for (int p = n - 1, rest = code; p >= 0; p--, rest /= n) {
                who[p] = rest % n;
                there |= 1 << who[p];
            }
            if (there == (1 << n) - 1) {
                all.add(who);
            }
        }
        return all;
    }

    static int placeOf(int[] who, int i) {
        for (int p = 0; p < who.length; p++) {
            if (who[p] == i) {
                return p;
            }
        }
        return -1;
    }

    // The same people, counted anew, so that PLACE p at first is his who is there in the arrangement.
    static String seated(String text, int[] who) {
        String[] items = text.split(";");
        List<String> persons = new ArrayList<>();
        StringBuilder others = new StringBuilder();
        for (String item : items) {
            String[] v = item.substring(1).split(",");
            if (item.charAt(0) == 'p') {
                persons.add(item + ";");
            } else if (item.charAt(0) == 'l') {
                others.append("l" + placeOf(who, Integer.parseInt(v[0])) + "," + placeOf(who, Integer.parseInt(v[1])) + "," + v[2] + ";");
            } else {
                others.append(item + ";");
            }
        }
        StringBuilder s = new StringBuilder();
        for (int i : who) {
            s.append(persons.get(i));
        }
        return s.toString() + others;
    }

    // ---- objects in some state

    // Three of TWO_WAYS at 1 0 2: something told, SEEN, KEPT, to be UNDONE, and another TEXT.
    static BothWould busy() {
        BothWould b = laid(TWO_WAYS);
        b.tell(1);
        b.tell(0);
        b.tell(1);
        b.seen(0, 0, 1, true);
        b.seen(2, 2, 1, false);
        b.keep();
        b.change(0);
        b.wipe();
        write(b, "p0,1,1;p1,2,2;p2,3,0;l0,1,60;r1;");
        return b;
    }

    // As much as there can be of everything, among three who always agree.
    static BothWould full() {
        BothWould b = laid(MEEK_THREE);
        for (int k = 0; k < 12; k++) {
            b.tell(k % 2);
        }
        for (int k = 0; k < 8; k++) {
            b.seen(k % 3, k % 2, 2, k % 3 > 0);
        }
        for (int k = 0; k < 11; k++) {
            b.change(k % 2);
            if (k == 3 || k == 8) {
                b.keep();
            }
        }
        b.wipe();
        write(b, "p1,10,0;p02,3,2;p2,20,4;l2,0,40;" + "r0;".repeat(88) + "r01;");
        return b;
    }

    // Nothing more would change, though something was done and is KEPT.
    static BothWould resting() {
        BothWould b = laid(TWO_WAYS);
        b.keep();
        b.change(1);
        b.tell(0);
        return b;
    }

    // As it is new: no TEXT, no told row, nothing SEEN, KEPT, to be UNDONE.
    static BothWould fresh() {
        return new BothWould();
    }

    // ---- what calls show

    static String row(BothWould b) {
        StringBuilder s = new StringBuilder();
        int n = b.count(0);
        for (int p = 0; p < n; p++) {
            s.append(p == 0 ? "" : " ").append(b.at(p));
        }
        return s.toString();
    }

    static void dueRow(String call, BothWould b, String want) {
        String got = row(b);
        if (!got.equals(want)) {
            fail(call + " leads to " + got + ", due is " + want);
        }
    }

    // All that is shown without changing anything, then what lies below: to be UNDONE, KEPT, THE TEXT.
    static List<String> shown(BothWould b) {
        List<String> s = new ArrayList<>();
        showNow(b, s);
        for (int k = 0; k < 10; k++) {
            s.add("undo " + b.undo() + ": " + row(b));
        }
        for (int k = 0; k < 3; k++) {
            s.add("back " + b.back() + ": " + row(b));
        }
        s.add("noRow " + b.noRow() + " forget " + b.forget());
        s.add("fault " + b.fault() + " lay " + b.lay());
        showPeople(b, s);
        s.add("wipe " + b.wipe());
        return s;
    }

    private static void showPeople(BothWould b, List<String> s) {
        int n = b.count(0);
        for (int i = 0; i < n; i++) {
            s.add("person " + i + ": " + b.person(i, 0) + " " + b.person(i, 1) + " " + b.person(i, 2) + " " + b.person(i, 3));
            for (int j = 0; j < n; j++) {
                s.add("likes " + i + " " + j + ": " + b.likes(i, j));
            }
        }
        s.add("changes " + b.count(1));
    }

    private static void showNow(BothWould b, List<String> s) {
        for (int what = 0; what < 8; what++) {
            s.add("count " + what + ": " + b.count(what));
        }
        showPeople(b, s);
        int n = b.count(0);
        for (int x = 0; x < n; x++) {
            s.add("at " + x + ": " + b.at(x) + " worth " + b.worth(x) + " suits " + b.suits(x, false) + " " + b.suits(x, true)
                + " price " + b.price(x, 0) + " " + b.price(x, 1) + " deal " + b.deal(x));
            s.add("lie " + x + ": " + b.lie(x, 0) + " " + b.lie(x, 1) + " fits " + b.fits(x, 0) + " " + b.fits(x, 1)
                + " mean " + b.mean(x, 3, 0) + "/" + b.mean(x, 3, 1));
            for (int p = 0; p < n; p++) {
                s.add("comes " + x + " " + p + ": " + b.comes(x, p, 0) + " " + b.comes(x, p, 1) + " bars " + b.bars(x, p));
            }
        }
        for (int p = -1; p < n; p++) {
            s.add("rests, goingOn, best " + p + ": " + b.rests(p) + " " + b.goingOn(p) + " " + b.best(p));
        }
        s.add("judge " + b.judge() + " longest " + b.longest() + " shortest " + b.shortest(0) + " " + b.shortest(1));
    }

    // The call answers so, and all other calls show what they show without it.
    static void unchanged(String name, Supplier<BothWould> state, Call call, int want) {
        BothWould b = state.get();
        due(name, call.on(b), want);
        same(name, shown(b), shown(state.get()));
    }

    static void same(String name, List<String> got, List<String> want) {
        for (int k = 0; k < Math.max(got.size(), want.size()); k++) {
            String g = k < got.size() ? got.get(k) : "nothing";
            String w = k < want.size() ? want.get(k) : "nothing";
            if (!g.equals(w)) {
                fail(name + " has changed " + w + " to " + g);
                return;
            }
        }
    }

    // Each number at both of its ends is allowed, with all others at theirs; one beyond either end,
    // and the least and the greatest of all, are BAD, and change nothing.
    static void between(String name, Supplier<BothWould> state, Numbers call, int[]... ends) {
        for (int c = 0; c < 1 << ends.length; c++) {
            int[] v = corner(c, ends);
            if (call.on(state.get(), v) == BAD) {
                fail(name + Arrays.toString(v) + " is BAD");
            }
            for (int k = 0; k < ends.length; k++) {
                for (int off : new int[] {ends[k][0] - 1, ends[k][1] + 1, MIN, MAX}) {
                    int[] w = corner(c, ends);
                    w[k] = off;
                    unchanged(name + Arrays.toString(w), state, b -> call.on(b, w), BAD);
                }
            }
        }
        int[] all = new int[ends.length];
        Arrays.fill(all, MIN);
        unchanged(name + " of all the least", state, b -> call.on(b, all), BAD);
    }

    private static int[] corner(int c, int[][] ends) {
        int[] v = new int[ends.length];
        for (int k = 0; k < v.length; k++) {
            v[k] = ends[k][c >> k & 1];
        }
        return v;
    }

    static int[] ends(int low, int high) {
        return new int[] {low, high};
    }

    private Bounds() {
    }
}
