import java.io.IOException;
import java.lang.reflect.Array;
import java.lang.reflect.Constructor;
import java.lang.reflect.Field;
import java.lang.reflect.Method;
import java.lang.reflect.Modifier;
import java.nio.charset.StandardCharsets;
import java.nio.file.Files;
import java.nio.file.Path;
import java.util.ArrayDeque;
import java.util.ArrayList;
import java.util.Arrays;
import java.util.IdentityHashMap;
import java.util.List;
import java.util.Map;
import java.util.Set;
import java.util.TreeMap;
import java.util.TreeSet;
import java.util.regex.Matcher;
import java.util.regex.Pattern;

// What of LANGUAGE.md can be read off the compiled class and its source.
public final class LanguageTest {
    private static final Path SOURCE = Path.of("src/main/java/BothWould.java");
    private static final String[] FACE = {
        "int write(int,long)", "int wipe()", "int fault()", "int lay()", "int person(int,int)", "int likes(int,int)",
        "int worth(int)", "int at(int)", "int suits(int,boolean)", "int change(int)", "int round(int)", "int undo()",
        "int tell(int)", "int noRow()", "int judge()", "int rests(int)", "int goingOn(int)", "int longest()",
        "int shortest(int)", "int comes(int,int,int)", "int bars(int,int)", "int best(int)", "int price(int,int)",
        "int deal(int)", "int lie(int,int)", "int seen(int,int,int,boolean)", "int forget()", "int fits(int,int)",
        "int mean(int,int,int)", "int keep()", "int back()", "int count(int)"};

    private static int wrong = 0;

    private static void must(boolean holds, String what) {
        if (!holds) {
            wrong++;
            System.out.println("not so: " + what);
        }
    }

    public static void main(String[] args) throws IOException, IllegalAccessException {
        face();
        insideClasses();
        for (int k = 0; k < 2; k++) {
            names(k == 0 ? List.of(BothWould.class) : Arrays.asList(BothWould.class.getDeclaredClasses()));
        }
        String source = Files.readString(SOURCE, StandardCharsets.UTF_8);
        words(source);
        lengths(source);
        depth(source);
        made(source);
        room();
        System.out.println(wrong == 0 ? "the language is kept to" : wrong + " rules are not kept to");
        if (wrong != 0) {
            System.exit(1);
        }
    }

    private static String signature(Method m) {
        StringBuilder s = new StringBuilder(m.getReturnType() + " " + m.getName() + "(");
        for (Class<?> c : m.getParameterTypes()) {
            s.append(s.charAt(s.length() - 1) == '(' ? "" : ",").append(c);
        }
        return s.append(")").toString();
    }

    private static void face() {
        Class<?> c = BothWould.class;
        must(Modifier.isPublic(c.getModifiers()) && Modifier.isFinal(c.getModifiers()), "the class is public and final");
        Constructor<?>[] made = c.getDeclaredConstructors();
        must(made.length == 1 && Modifier.isPublic(made[0].getModifiers()) && made[0].getParameterCount() == 0, "one constructor");
        Set<String> open = new TreeSet<>();
        for (Method m : c.getDeclaredMethods()) {
            if (Modifier.isPrivate(m.getModifiers())) {
                continue;
            }
            must(Modifier.isPublic(m.getModifiers()) && !Modifier.isStatic(m.getModifiers()), m + " is of the face");
            open.add(signature(m));
        }
        must(open.equals(new TreeSet<>(Arrays.asList(FACE))), "the face: " + open);
        Set<String> constants = new TreeSet<>();
        for (Field f : c.getDeclaredFields()) {
            if (!Modifier.isPrivate(f.getModifiers())) {
                constants.add(f.getName());
            }
        }
        must(constants.equals(new TreeSet<>(List.of("BAD", "NO", "FULL", "NONE"))), "the constants: " + constants);
    }

    private static void insideClasses() {
        Class<?>[] inside = BothWould.class.getDeclaredClasses();
        must(inside.length < 12, "at most some twelve classes");
        for (Class<?> c : inside) {
            must(Modifier.isStatic(c.getModifiers()), c + " is static");
            must(!Modifier.isPublic(c.getModifiers()) && !Modifier.isProtected(c.getModifiers()), c + " is not open");
            must(c.getDeclaredClasses().length == 0, c + " has no classes inside");
        }
        must(BothWould.class.getResource("BothWould$1.class") == null, "no anonymous or local class");
    }

    private static void names(List<Class<?>> classes) {
        Set<String> face = new TreeSet<>();
        for (String s : FACE) {
            face.add(s.substring(4, s.indexOf('(')));
        }
        for (Class<?> c : classes) {
            int fields = 0;
            for (Method m : c.getDeclaredMethods()) {
                must(Modifier.isPublic(m.getModifiers()) || !face.contains(m.getName()), m + " bears a name of the face");
                must(m.getParameterCount() <= 7, m + " takes at most seven");
            }
            for (Field f : c.getDeclaredFields()) {
                must(!Modifier.isStatic(f.getModifiers()) || Modifier.isFinal(f.getModifiers()), f + " is final");
                fields += Modifier.isStatic(f.getModifiers()) ? 0 : 1;
            }
            must(fields <= 20, c + " has at most some twenty fields");
        }
    }

    private static void words(String source) {
        String bare = source.replaceAll("//[^\n]*", "");
        must(source.chars().allMatch(ch -> ch == '\n' || ch >= 32 && ch < 127), "plain signs alone");
        String[] none = {"throw", "throws", "try", "catch", "finally", "synchronized", "assert", "var", "package", "volatile",
            "native", "extends", "Exception", "Error", "Object", "Thread", "Random", "System\\.(?!arraycopy)\\w+", "\\w+Exact"};
        for (String word : none) {
            Matcher m = Pattern.compile("\\b" + word + "\\b").matcher(bare);
            must(!m.find(), "no " + word);
        }
        must(!bare.contains("->") && !bare.contains("::"), "no lambda, no method reference");
        Matcher imports = Pattern.compile("import ([^;]+);").matcher(bare);
        while (imports.find()) {
            must(Set.of("java.util.Arrays", "java.util.ArrayList", "java.util.List").contains(imports.group(1)), imports.group());
        }
        Matcher library = Pattern.compile("\\b(Arrays|Math|Integer|Long|System)\\.(\\w+)").matcher(bare);
        Set<String> allowed = Set.of("Arrays.fill", "Arrays.copyOf", "Arrays.copyOfRange", "Math.max", "Math.min", "Math.abs",
            "System.arraycopy");
        while (library.find()) {
            must(allowed.contains(library.group()), "only the library that is listed: " + library.group());
        }
    }

    private static final Pattern HEAD = Pattern.compile("^( {4}| {8})(?!(?:if|for|while|switch)\\b)(?:[\\w\\[\\]]+ )*(\\w+)\\(.*\\{$");

    // Each method's name and its lines; methods of one name are taken together.
    private static Map<String, List<String>> methods(String source) {
        Map<String, List<String>> bodies = new TreeMap<>();
        List<String> body = null;
        String indent = "";
        for (String line : source.replaceAll("//[^\n]*", "").split("\n")) {
            Matcher head = HEAD.matcher(line);
            if (head.find()) {
                indent = head.group(1);
                body = bodies.computeIfAbsent(head.group(2), name -> new ArrayList<>());
                body.add("");
            } else if (line.equals(indent + "}")) {
                body = null;
            } else if (body != null) {
                body.add(line);
            }
        }
        return bodies;
    }

    private static void lengths(String source) {
        for (Map.Entry<String, List<String>> m : methods(source).entrySet()) {
            must(m.getValue().size() <= 60, m.getKey() + " is short");
        }
    }

    // No method comes to itself again, and at most eight stand open at once.
    private static void depth(String source) {
        Map<String, Set<String>> calls = new TreeMap<>();
        Map<String, List<String>> bodies = methods(source);
        for (String name : bodies.keySet()) {
            Set<String> called = calls.computeIfAbsent(name, n -> new TreeSet<>());
            Matcher m = Pattern.compile("\\b(\\w+)\\(").matcher(String.join("\n", bodies.get(name)));
            while (m.find()) {
                if (bodies.containsKey(m.group(1))) {
                    called.add(m.group(1));
                }
            }
        }
        for (String s : FACE) {
            must(bodies.containsKey(s.substring(4, s.indexOf('('))), "found in the source: " + s);
        }
        for (String name : bodies.keySet()) {
            int deep = deep(name, calls, 0);
            must(deep <= 8, name + " goes at most eight deep: " + deep);
        }
    }

    private static int deep(String name, Map<String, Set<String>> calls, int open) {
        if (open > 50) {
            return open;
        }
        int most = 0;
        for (String next : calls.get(name)) {
            most = Math.max(most, deep(next, calls, open + 1));
        }
        return most + 1;
    }

    // All rows are made with the object: a call makes nothing, so that no run of calls fills the room.
    private static void made(String source) {
        Set<String> constructors = new TreeSet<>(List.of("BothWould"));
        for (Class<?> c : BothWould.class.getDeclaredClasses()) {
            constructors.add(c.getSimpleName());
        }
        for (Map.Entry<String, List<String>> m : methods(source).entrySet()) {
            if (!constructors.contains(m.getKey())) {
                String body = String.join("\n", m.getValue());
                must(!Pattern.compile("\\bnew\\b|\\bclone\\b|\\bcopyOf|\"").matcher(body).find(), m.getKey() + " makes nothing");
            }
        }
    }

    // 600,000 objects and arrays with 7.3 million fields and elements hold 500 of these, and more.
    private static void room() throws IllegalAccessException {
        BothWould b = new BothWould();
        int[] before = measure(b);
        must(before[0] <= 1000 && before[1] <= 14000, "an object is small: " + before[0] + " objects, " + before[1] + " elements");
        b.write(8, 0x70302c31302c343bL);
        b.write(8, 0x70302c31302c343bL);
        b.lay();
        b.longest();
        b.mean(0, 6, 0);
        b.lie(0, 0);
        must(Arrays.equals(before, measure(b)), "it stays as large as it was made");
    }

    private static int[] measure(Object root) throws IllegalAccessException {
        Map<Object, Boolean> known = new IdentityHashMap<>();
        ArrayDeque<Object> open = new ArrayDeque<>(List.of(root));
        known.put(root, true);
        int elements = 0;
        while (!open.isEmpty()) {
            Object o = open.poll();
            if (o.getClass().isArray()) {
                elements += Array.getLength(o);
                continue;
            }
            for (Field f : o.getClass().getDeclaredFields()) {
                if (Modifier.isStatic(f.getModifiers())) {
                    continue;
                }
                elements++;
                f.setAccessible(true);
                Object part = f.getType().isPrimitive() ? null : f.get(o);
                if (part != null && known.put(part, true) == null) {
                    open.add(part);
                }
            }
        }
        return new int[] {known.size(), elements};
    }
}
