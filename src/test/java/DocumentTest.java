import java.io.IOException;
import java.lang.reflect.Field;
import java.lang.reflect.Method;
import java.lang.reflect.Modifier;
import java.nio.charset.StandardCharsets;
import java.nio.file.DirectoryStream;
import java.nio.file.Files;
import java.nio.file.Path;
import java.util.ArrayList;
import java.util.Arrays;
import java.util.List;
import java.util.regex.Matcher;
import java.util.regex.Pattern;

// The document from its first line to its last, so far as the boundary tests do not hold it: its first
// sentence clause by clause, the 512 calls, the face, the headings of the interface, what is not
// promised; and that each sentence is quoted by a test.
public final class DocumentTest {
    private static final int BAD = Bounds.BAD, NO = Bounds.NO, NONE = Bounds.NONE;
    private static final String WHAT = "What it is";
    private static final String FACE = "The public face";
    private static final Path SOURCE = Path.of("src/main/java/BothWould.java");
    private static final Path TESTS = Path.of("src/test/java");
    // Both wait for each other's house; the third minds neither where nor beside whom he lives.
    private static final String TWO_WHO_WOULD = "p1,5,0;p0,5,0;p2,0,0;";

    public static void main(String[] args) throws IOException {
        whoLivesThere();
        whatTheyDo();
        whereItLeads();
        whatItIsWorth();
        calls512();
        face();
        headings();
        notPromised();
        everySentence();
        Bounds.end();
    }

    // ---- the first sentence

    private static void whoLivesThere() {
        Bounds.sentence(WHAT, "Neighbours change if both would:", () -> {
            BothWould both = Bounds.laid("p1,5,0;p0,5,0;");
            Bounds.due("both would", both.change(0), 1);
            Bounds.dueRow("both would", both, "1 0");
            BothWould one = Bounds.laid("p1,5,0;p1,5,0;");
            Bounds.due("the first alone would", one.change(0), NO);
            Bounds.dueRow("the first alone would", one, "0 1");
            Bounds.due("the second alone would", Bounds.laid("p0,5,0;p0,5,0;").change(0), NO);
        });
        Bounds.sentence(WHAT, "people in a row of houses, or a ring,", () -> {
            Bounds.due("the ends of a row are not side by side", Bounds.laid("p2,5,0;p1,5,3;p0,5,0;").suits(2, false), BAD);
            Bounds.due("those of a ring are", Bounds.laid("p2,5,0;p1,5,3;p0,5,0;r1;").suits(2, false), 1);
        });
        Bounds.sentence(WHAT, "with a house each would like best", () -> {
            for (int best = 0; best < 6; best++) {
                StringBuilder text = new StringBuilder();
                for (int i = 0; i < 6; i++) {
                    text.append("p" + best + ",7,0;");
                }
                BothWould b = Bounds.laid(text.toString());
                for (int i = 0; i < 6; i++) {
                    Bounds.due("worth of " + i + ", who wants " + best, b.worth(i), 1100 - 7 * Math.abs(i - best));
                }
            }
        });
        Bounds.sentence(WHAT, "and neighbours they like or not,", () -> {
            BothWould b = Bounds.laid("p0,0,0;p1,0,0;p2,0,0;l0,1,80;l1,0,20;l2,1,50;");
            Bounds.due("he likes him", b.worth(0), 1130);
            Bounds.due("he likes him not", b.worth(1), 1070);
            Bounds.due("neither", b.worth(2), 1100);
        });
        Bounds.sentence(WHAT, "of kinds that are willing, greedy, fools who never go, meek ones who always do,", () -> {
            // Beside a MEEK one: who gains 5, nothing, or loses 5, by going from PLACE 0 to 1.
            int[][] goes = {{1, 0, 0}, {1, 1, 0}, {0, 0, 0}, {0, 0, 0}, {1, 1, 1}};
            String[] gains = {"p1,5,", "p1,0,", "p0,5,"};
            for (int kind = 0; kind < 5; kind++) {
                for (int k = 0; k < 3; k++) {
                    Bounds.due("kind " + kind + " by " + gains[k], Bounds.laid(gains[k] + kind + ";p0,0,4;").suits(0, false), goes[kind][k]);
                }
            }
            Bounds.due("greedy for 10", Bounds.laid("p1,10,2;p0,0,4;").suits(0, false), 1);
        });
        Bounds.sentence(WHAT, "told in a text with the first fault;", () -> {
            Bounds.due("told", Bounds.layOf("p1,5,0;p0,5,0;l0,1,60;r1;"), 2);
            Bounds.due("the first of two faults", Bounds.faultOf("p1,5,0;p9,5,0;l0,0,60;r1;"), 7);
            Bounds.due("no fault", Bounds.faultOf("p1,5,0;p0,5,0;l0,1,60;r1;"), NONE);
        });
    }

    private static void whatTheyDo() {
        Bounds.sentence(WHAT, "two side by side who change, three who go round, if it suits all;", () -> {
            BothWould two = Bounds.laid(TWO_WHO_WOULD);
            Bounds.due("three of whom one would not", two.round(0), NO);
            Bounds.due("two", two.change(0), 1);
            Bounds.dueRow("two", two, "1 0 2");
            BothWould three = Bounds.laid(Bounds.ONLY_ROUND);
            Bounds.due("two of whom one would not", three.change(0), NO);
            Bounds.due("three", three.round(0), 2);
            Bounds.dueRow("three", three, "2 0 1");
        });
        Bounds.sentence(WHAT, "rows of changes judged;", () -> {
            BothWould b = Bounds.laid(TWO_WHO_WOULD);
            b.tell(0);
            Bounds.due("one that suits", b.judge(), NONE);
            b.tell(1);
            Bounds.due("the second does not", b.judge(), 1);
            Bounds.dueRow("judging does nothing", b, "0 1 2");
        });
        Bounds.sentence(WHAT, "changes undone, arrangements kept.", () -> {
            BothWould b = Bounds.laid(TWO_WHO_WOULD);
            Bounds.due("keep", b.keep(), 1);
            b.change(0);
            Bounds.due("undo", b.undo(), 0);
            Bounds.dueRow("undo", b, "0 1 2");
            b.change(0);
            Bounds.due("back", b.back(), 0);
            Bounds.dueRow("back", b, "0 1 2");
        });
    }

    private static void whereItLeads() {
        Bounds.sentence(WHAT, "rows nobody would change in any more, how one comes to them,", () -> {
            BothWould b = Bounds.laid(Bounds.TWO_WAYS);
            Bounds.due("how many", b.rests(-1), 2);
            int[] first = {b.rests(0), b.rests(1), b.rests(2)};
            Bounds.due("nobody would", Bounds.laid(Bounds.seated(Bounds.TWO_WAYS, first)).count(2), 0);
            Bounds.due("the shortest way, by one change", b.change(b.shortest(1)), 2);
            Bounds.dueRow("the shortest way", b, first[0] + " " + first[1] + " " + first[2]);
            Bounds.due("nobody would any more", b.count(2), 0);
        });
        Bounds.sentence(WHAT, "how long it can go on at most, at least;", () -> {
            BothWould b = Bounds.laid(Bounds.TWO_WAYS);
            Bounds.due("at most", b.longest(), 2);
            Bounds.due("at least", b.shortest(0), 1);
            Bounds.due("by the lowest", b.goingOn(-1), 2);
        });
        Bounds.sentence(WHAT, "how somebody comes to a place, who bars it;", () -> {
            BothWould b = Bounds.laid("p2,1,0;p0,1,0;p1,1,3;");
            Bounds.due("by one change", b.comes(0, 1, 0), 1);
            Bounds.due("by this one", b.comes(0, 1, 1), 0);
            Bounds.due("not at all", b.comes(0, 2, 0), NONE);
            Bounds.due("the fool bars it", b.bars(0, 2), 2);
            Bounds.due("nobody bars it", b.bars(0, 1), NONE);
        });
        Bounds.sentence(WHAT, "the arrangement that is best for all,", () -> {
            // All three want to be elsewhere; the fools among them would never come there by themselves.
            BothWould b = Bounds.laid("p2,3,3;p0,4,3;p1,5,3;");
            Bounds.due("each where he would like it best", b.best(-1), 10300);
            Bounds.due("best(0)", b.best(0), 1);
            Bounds.due("best(1)", b.best(1), 2);
            Bounds.due("best(2)", b.best(2), 0);
        });
    }

    private static void whatItIsWorth() {
        Bounds.sentence(WHAT, "prices for a yes, deals;", () -> {
            BothWould b = Bounds.laid("p1,9,0;p1,4,0;");
            Bounds.due("his yes is free", b.price(0, 0), 0);
            Bounds.due("the other's costs the loss and 1", b.price(0, 1), 5);
            Bounds.due("9 are enough for it", b.deal(0), 1);
            Bounds.due("5 are not", Bounds.laid("p1,5,0;p1,4,0;").deal(0), 0);
        });
        Bounds.sentence(WHAT, "who gains by a lie;", () -> {
            BothWould b = Bounds.laid("p1,3,0;p2,1,0;p0,3,1;l1,2,57;");
            int[] gains = {0, 6, 0};
            for (int i = 0; i < 3; i++) {
                Bounds.due("what " + i + " gains", b.lie(i, 1), gains[i]);
            }
            Bounds.due("what 1 says", b.lie(1, 0), 0);
        });
        Bounds.sentence(WHAT, "likings as they must be by what was said;", () -> {
            BothWould b = Bounds.laid(TWO_WHO_WOULD);
            b.seen(0, 0, 1, true);
            Bounds.due("1 or 2", b.fits(0, 0), 2);
            b.seen(0, 1, 2, true);
            Bounds.due("2 alone", b.fits(0, 0), 1);
            Bounds.due("2 alone", b.fits(0, 1), 2);
        });
        Bounds.sentence(WHAT, "evenings by chance, exactly;", () -> {
            // One of three CHANGES suits, once: 95 by 2 in 3, 100 by 1 in 3, that is 290 by 3.
            BothWould b = Bounds.laid("p1,5,0;p0,5,0;p2,0,3;r1;");
            Bounds.due("above", b.mean(0, 1, 0), 100000290);
            Bounds.due("below", b.mean(0, 1, 1), 3);
        });
    }

    // ---- 512 calls

    private static final String[] ASKED = {"write", "wipe", "fault", "lay", "person", "likes", "worth", "at", "suits", "change", "round",
        "undo", "tell", "noRow", "judge", "rests", "goingOn", "longest", "shortest", "comes", "bars", "best", "price", "deal", "lie",
        "seen", "forget", "fits", "mean", "keep", "back", "count"};

    private static void calls512() {
        Bounds.sentence(WHAT, "An object is used for at most 512 calls after it has been made;", () -> {
            // Each call as the 512th, behind calls that leave all as it is, answers as the first one does.
            for (String name : ASKED) {
                Method m = method(name);
                for (int v = -1; v <= 2; v++) {
                    BothWould late = new BothWould();
                    for (int k = 0; k < 511; k++) {
                        ask(late, method(ASKED[questionOf(k)]), k % 3);
                    }
                    Bounds.due("the 512th call, " + name + " of " + v, ask(late, m, v), ask(new BothWould(), m, v));
                }
            }
            // What is done goes on to the last call, too.
            BothWould b = Bounds.fresh();
            Bounds.write(b, Bounds.MEEK_TWO);
            b.lay();
            for (int k = 4; k <= 512; k++) {
                Bounds.due("change as call " + k, b.change(0), k % 2 == 0 ? 1 : 0);
            }
        });
        Bounds.sentence(WHAT, "what later calls answer is free.", () -> {
            // But no call throws, or fails to end.
            BothWould b = Bounds.laid(Bounds.meek(6, true));
            for (int k = 0; k < 20000; k++) {
                ask(b, method(ASKED[k * 7 % ASKED.length]), k / ASKED.length % 9 - 1);
            }
        });
    }

    // One of the calls that change nothing in a new object.
    private static int questionOf(int k) {
        int[] questions = {1, 2, 3, 4, 5, 6, 7, 8, 11, 13, 14, 15, 16, 17, 18, 19, 20, 21, 22, 23, 24, 26, 27, 28, 30, 31};
        return questions[k % questions.length];
    }

    private static Method method(String name) {
        for (Method m : BothWould.class.getDeclaredMethods()) {
            if (Modifier.isPublic(m.getModifiers()) && m.getName().equals(name)) {
                return m;
            }
        }
        throw new IllegalStateException("no " + name);
    }

    // The numbers are v, v and 1, ..
    private static int ask(BothWould b, Method m, int v) {
        Object[] arguments = new Object[m.getParameterCount()];
        for (int k = 0; k < arguments.length; k++) {
            Class<?> type = m.getParameterTypes()[k];
            if (type == long.class) {
                arguments[k] = 0x70312c352c303bL;
            } else if (type == boolean.class) {
                arguments[k] = v % 2 == 0;
            } else {
                arguments[k] = v + k;
            }
        }
        try {
            return (Integer) m.invoke(b, arguments);
        } catch (ReflectiveOperationException e) {
            Bounds.fail(m.getName() + Arrays.toString(arguments) + " threw " + e.getCause());
            return Bounds.MIN;
        }
    }

    // ---- the face

    private static void face() throws IOException {
        String document = Bounds.document();
        String block = between(document, "```java", "```");
        String source = Files.readString(SOURCE, StandardCharsets.UTF_8);
        Bounds.sentence(FACE, "public final class BothWould {", () ->
            Bounds.due("the class's first line", count(source, "public final class BothWould {"), 1));
        Bounds.sentence(FACE, "public static final int BAD = -1, NO = -2, FULL = -3, NONE = -4;", () -> {
            int[] values = {BothWould.BAD, BothWould.NO, BothWould.FULL, BothWould.NONE};
            int[] want = {-1, -2, -3, -4};
            for (int k = 0; k < 4; k++) {
                Bounds.due("constant " + k, values[k], want[k]);
                Bounds.due("constant " + k + " by its name", constant(new String[] {"BAD", "NO", "FULL", "NONE"}[k]), want[k]);
            }
        });
        List<String> signatures = new ArrayList<>();
        Matcher m = Pattern.compile("public ((?:int )?\\w+\\([^)]*\\));").matcher(block);
        while (m.find()) {
            signatures.add(m.group(1));
        }
        Bounds.sentence(FACE, "public BothWould();", () -> Bounds.due("what the face has", signatures.size(), 33));
        // They stand in the class as in the document, one behind the other, with the document's names.
        int place = 0;
        for (String signature : signatures) {
            int next = source.indexOf("    public " + signature + " {", place);
            int from = place;
            Bounds.sentence(FACE, "public " + signature + ";", () ->
                Bounds.due("it stands in the class, behind those ahead of it", next >= from ? 1 : 0, 1));
            place = Math.max(place, next);
        }
        Bounds.sentence(FACE, "public int count(int what); }", () ->
            Bounds.due("nothing else is public", count(source, "    public "), 34));
    }

    private static int constant(String name) {
        try {
            Field f = BothWould.class.getField(name);
            return Modifier.isStatic(f.getModifiers()) && Modifier.isFinal(f.getModifiers()) ? f.getInt(null) : 0;
        } catch (ReflectiveOperationException e) {
            return 0;
        }
    }

    private static String between(String text, String from, String to) {
        int begin = text.indexOf(from) + from.length();
        return text.substring(begin, text.indexOf(to, begin));
    }

    private static int count(String text, String part) {
        return (text.length() - text.replace(part, "").length()) / part.length();
    }

    private static void headings() throws IOException {
        String source = Files.readString(SOURCE, StandardCharsets.UTF_8);
        Matcher m = Pattern.compile("Ahead of the calls (.*) the interface says: (---- .*)\\.").matcher(Bounds.document());
        int found = 0;
        while (m.find()) {
            found++;
            String heading = "    // " + m.group(2) + "\n";
            String[] calls = m.group(1).replace("`", "").split(", ");
            Bounds.sentence(FACE, m.group(), () -> {
                Bounds.due("it is said once", count(source, heading), 1);
                int begin = source.indexOf(heading);
                int end = source.indexOf("    // ---- ", begin + 1);
                String part = source.substring(Math.max(0, begin), end < 0 ? source.length() : end);
                for (String call : calls) {
                    Bounds.due(call + " stands below it", count(part, "    public int " + call + "("), 1);
                }
                Bounds.due("how many stand below it", count(part, "    public int "), calls.length);
            });
        }
        Bounds.due("headings of the interface", found, 4);
    }

    // ---- what is not promised

    private static void notPromised() {
        Bounds.sentence("Not promised", "Nothing is promised beyond the answers and state changes described above", () -> {
            // What one object is told is no matter of another one, in whatever order both are asked.
            BothWould one = Bounds.busy();
            BothWould other = Bounds.full();
            Bounds.due("one", one.longest(), 1);
            Bounds.due("the other", other.longest(), NONE);
            Bounds.due("one", one.mean(0, 1, 1), 1);
            List<String> shown = Bounds.shown(one);
            Bounds.same("the one beside the other", Bounds.shown(other), Bounds.shown(Bounds.full()));
            BothWould again = Bounds.busy();
            again.longest();
            again.mean(0, 1, 1);
            Bounds.same("the other beside the one", shown, Bounds.shown(again));
        });
        Bounds.sentence("Not promised", "the answers and state changes described above", () -> {
            // The same calls give the same answers, however often something is asked.
            Bounds.sizes((state, n, ring) -> {
                BothWould b = state.get();
                for (String name : ASKED) {
                    if (isQuestion(name)) {
                        int first = ask(b, method(name), 0);
                        Bounds.due(name + " asked again", ask(b, method(name), 0), first);
                    }
                }
                Bounds.same("questions alone", Bounds.shown(b), Bounds.shown(state.get()));
            });
        });
    }

    private static boolean isQuestion(String name) {
        return !List.of("write", "wipe", "lay", "change", "round", "undo", "tell", "noRow", "seen", "forget", "keep", "back").contains(name);
    }

    // ---- each sentence is quoted

    private static void everySentence() throws IOException {
        String document = Bounds.plain(Bounds.document());
        boolean[] held = new boolean[document.length()];
        // What says nothing by itself, or is held above as it is read from the document.
        String[] frames = {"# BothWould", "## What it is", "## The public face", "## Terms", "## Not promised", "======== \\d", "```text",
            "```java public final class .*? \\} ```", "```", "## Promise \\d+: [\\w ]+ `[^`]*`:", "Ahead of the calls .*? the interface says: "
            + "---- [a-z, ]+\\.",
            // What is free can't be tested.
            "How the state is held inside the object is free.*? not promised to be safe\\.", "and nothing about an object after its 512th call"};
        for (String frame : frames) {
            markAll(held, Pattern.compile(frame).matcher(document));
        }
        int quotes = 0;
        try (DirectoryStream<Path> files = Files.newDirectoryStream(TESTS, "*Test.java")) {
            for (Path file : files) {
                for (String quote : quotesOf(Files.readString(file, StandardCharsets.UTF_8))) {
                    quotes++;
                    markAll(held, Pattern.compile(Pattern.quote(quote)).matcher(document));
                }
            }
        }
        Bounds.due("quotes were found", quotes > 100 ? 1 : 0, 1);
        int end = 0;
        for (int begin = 0; begin < held.length; begin = end + 1) {
            end = begin;
            while (end < held.length && !held[end]) {
                end++;
            }
            String part = document.substring(begin, end);
            if (part.matches(".*[A-Za-z0-9].*")) {
                Bounds.sentence("Every sentence", part, () -> Bounds.fail("no test quotes it"));
            }
        }
    }

    private static void markAll(boolean[] held, Matcher m) {
        while (m.find()) {
            Arrays.fill(held, m.start(), m.end(), true);
        }
    }

    // The quote is the last text ahead of the test itself, or of the end of a call that hands it on.
    private static List<String> quotesOf(String source) {
        String text = "\"((?:[^\"\\\\]|\\\\.)*)\"";
        String joined = source.replaceAll("\"\\s*\\+\\s*\"", "");
        List<String> quotes = new ArrayList<>();
        Matcher direct = Pattern.compile("sentence\\((?:\\w+|\"[^\"]*\"),\\s*" + text + ",\\s*\\(\\) ->").matcher(joined);
        while (direct.find()) {
            quotes.add(Bounds.plain(direct.group(1)));
        }
        Matcher handed = Pattern.compile("(?:agreesFrom|numbersUpTo)\\([^;\"]*(?:\"[^\"]*\", \\d+, )?" + text + "\\);").matcher(joined);
        while (handed.find()) {
            quotes.add(Bounds.plain(handed.group(1)));
        }
        return quotes;
    }
}
