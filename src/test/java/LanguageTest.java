import java.io.IOException;
import java.lang.management.ManagementFactory;
import java.lang.reflect.Field;
import java.lang.reflect.Method;
import java.lang.reflect.Modifier;
import java.nio.charset.StandardCharsets;
import java.nio.file.Files;
import java.nio.file.Path;
import java.util.Arrays;
import java.util.List;
import java.util.Random;
import java.util.TreeSet;
import java.util.regex.Matcher;
import java.util.regex.Pattern;

/** What LANGUAGE.md asks of the file and of the class, as far as a test can see it; runs in the project's root. */
public final class LanguageTest {
    private static final Path SOURCE = Path.of("src/main/java/WordOnPost.java");
    private static final String[] FACE = {
        "int place(int)", "int rain(int,int)", "int lot(int)", "int put(int,int)", "int kind(int,int,int)",
        "int prior(int,int)", "int type(int,long,int)", "int clear(int)", "int fault(int)",
        "int sign(int,int,int,int)", "int post(int,boolean)", "int teller(int,int,int,int,int)", "int at(int,int)",
        "int must(int,int,int)", "int hunger(int)", "int odds(int,int)", "int all(int)", "int where(int,int,int)",
        "int so(int)", "int lost(int)", "int next()", "int fed(int,int)", "int dry(int,int,int)",
        "int many(int,int,int,int)", "int stone(int,int,int,int,int)", "int days(int,int,int)",
        "int storm(int,boolean)", "int sails(int,int,int)", "int back(int,int,int,int,int)", "int part(int)",
        "int limb(int,int)", "int image(int)", "int from(int)", "int status(int)", "int count(int)", "long digest()"};
    private static int wrong;

    public static void main(String[] args) throws Exception {
        theFace();
        theClassesInside();
        theText();
        theMethodsLengths();
        nothingIsEverThrown();
        noCallMakesObjects();
        aNewObjectIsSmall();
        System.out.println("language: " + wrong + " wrong");
        if (wrong > 0) {
            System.exit(1);
        }
    }

    private static void must(boolean holds, String what) {
        if (!holds) {
            wrong++;
            System.out.println("not so: " + what);
        }
    }

    private static void theFace() {
        Class<?> c = WordOnPost.class;
        must(Modifier.isPublic(c.getModifiers()) && Modifier.isFinal(c.getModifiers()), "public and final");
        must(c.getDeclaredConstructors().length == 1 && c.getConstructors().length == 1, "one constructor, public");
        TreeSet<String> open = new TreeSet<>();
        TreeSet<String> names = new TreeSet<>();
        for (Method m : c.getDeclaredMethods()) {
            if (!Modifier.isPrivate(m.getModifiers())) {
                must(Modifier.isPublic(m.getModifiers()) && !Modifier.isStatic(m.getModifiers()), m + " public");
                open.add(signature(m));
                names.add(m.getName());
            }
        }
        must(open.equals(new TreeSet<>(Arrays.asList(FACE))), "the document's methods and no others");
        for (Method m : c.getDeclaredMethods()) {
            must(!Modifier.isPrivate(m.getModifiers()) || !names.contains(m.getName()), m + " has a name of its own");
        }
        for (Field f : c.getDeclaredFields()) {
            boolean constant = List.of("NONE", "BAD", "NO", "FULL").contains(f.getName());
            must(constant ? Modifier.isPublic(f.getModifiers()) : Modifier.isPrivate(f.getModifiers()), f + " as told");
        }
    }

    private static String signature(Method m) {
        StringBuilder b = new StringBuilder(m.getReturnType().getName()).append(' ').append(m.getName()).append('(');
        for (int i = 0; i < m.getParameterCount(); i++) {
            b.append(i > 0 ? "," : "").append(m.getParameterTypes()[i].getName());
        }
        return b.append(')').toString();
    }

    private static void theClassesInside() {
        Class<?>[] inside = WordOnPost.class.getDeclaredClasses();
        must(inside.length + 1 <= 12, "twelve classes at most");
        for (Class<?> c : inside) {
            must(Modifier.isStatic(c.getModifiers()) && Modifier.isPrivate(c.getModifiers()), c + " static, private");
            must(c.getDeclaredClasses().length == 0, c + " has none inside");
            theFields(c);
        }
        theFields(WordOnPost.class);
    }

    private static void theFields(Class<?> c) {
        int fields = 0;
        for (Field f : c.getDeclaredFields()) {
            if (Modifier.isStatic(f.getModifiers())) {
                must(Modifier.isFinal(f.getModifiers()) && f.getType().isPrimitive(), f + " is a constant");
            } else {
                fields++;
            }
        }
        must(fields <= 20, c + " has twenty fields at most");
        for (Method m : c.getDeclaredMethods()) {
            must(m.getParameterCount() <= 7, m + " takes seven at most");
        }
    }

    private static void theText() throws IOException {
        String text = Files.readString(SOURCE, StandardCharsets.ISO_8859_1);
        must(text.chars().allMatch(ch -> ch < 128 && ch != '\t' && ch != '\r'), "plain signs alone");
        String code = text.replaceAll("(?s)/\\*.*?\\*/", "").replaceAll("//[^\n]*", "");
        for (String word : List.of("throw", "throws", "try", "catch", "synchronized", "assert", "package", "Exact",
                "double", "float", "String", "hashCode", "toString", "equals", "instanceof", "native", "record", "enum")) {
            must(!Pattern.compile("\\b" + word + "\\b").matcher(code).find(), "no " + word);
        }
        must(!code.contains("->") && !code.contains("::") && !code.contains("\""), "no lambda, no reference, no text");
        Matcher imports = Pattern.compile("import ([^;]*);").matcher(code);
        while (imports.find()) {
            must(imports.group(1).equals("java.util.Arrays"), "no import of " + imports.group(1));
        }
        Matcher library = Pattern.compile("\\b(Arrays|System|Math|Integer|Long)\\.(\\w+)").matcher(code);
        while (library.find()) {
            must(List.of("fill", "arraycopy", "min", "max").contains(library.group(2)), "no " + library.group());
        }
    }

    /** By the indents that the file keeps to: a method begins and ends at the same one. */
    private static void theMethodsLengths() throws IOException {
        List<String> lines = Files.readAllLines(SOURCE);
        Pattern head = Pattern.compile("^( {4}| {8})(?! )(?!.*\\bclass\\b).*\\) \\{$");
        for (int i = 0; i < lines.size(); i++) {
            must(lines.get(i).length() <= 120, "line " + (i + 1) + " is short");
            Matcher m = head.matcher(lines.get(i));
            if (m.matches()) {
                int end = i + lines.subList(i, lines.size()).indexOf(m.group(1) + "}");
                must(end > i && end - i <= 60, "the method of line " + (i + 1) + " is short");
            }
        }
    }

    private static void nothingIsEverThrown() {
        Random random = new Random(37);
        int[] edges = {Integer.MIN_VALUE, Integer.MAX_VALUE, -1, -2, 0, 1, 2, 3, 4, 5, 6, 7, 8, 9, 10, 59, 60, 119, 120, 999};
        Method[] methods = Arrays.stream(WordOnPost.class.getDeclaredMethods())
                .filter(m -> Modifier.isPublic(m.getModifiers())).toArray(Method[]::new);
        Arrays.sort(methods, (a, b) -> a.getName().compareTo(b.getName()));
        for (int run = 0; run < 200; run++) {
            WordOnPost x = new WordOnPost();
            for (int call = 0; call < 700; call++) {
                Method m = methods[random.nextInt(methods.length)];
                Object[] values = new Object[m.getParameterCount()];
                for (int i = 0; i < values.length; i++) {
                    Class<?> type = m.getParameterTypes()[i];
                    if (type == boolean.class) {
                        values[i] = random.nextBoolean();
                    } else if (type == long.class) {
                        values[i] = random.nextLong();
                    } else {
                        values[i] = random.nextInt(4) > 0 ? random.nextInt(6) : edges[random.nextInt(edges.length)];
                    }
                }
                try {
                    m.invoke(x, values);
                } catch (ReflectiveOperationException e) {
                    must(false, m + " with " + Arrays.toString(values) + " threw " + e.getCause());
                }
            }
        }
    }

    /** All calls of a run live in one room: what a call makes stays there. */
    private static void noCallMakesObjects() {
        com.sun.management.ThreadMXBean threads =
                (com.sun.management.ThreadMXBean) ManagementFactory.getThreadMXBean();
        WordOnPost x = new WordOnPost();
        callAll(x);
        long self = Thread.currentThread().getId();
        threads.getThreadAllocatedBytes(self);
        long before = threads.getThreadAllocatedBytes(self);
        long measure = threads.getThreadAllocatedBytes(self) - before;
        before = threads.getThreadAllocatedBytes(self);
        callAll(x);
        long made = threads.getThreadAllocatedBytes(self) - before - measure;
        must(made <= 0, "no call makes an object, but " + made + " bytes were made");
    }

    private static long callAll(WordOnPost x) {
        long sum = x.place(20) + x.place(30) + x.lot(20) + x.lot(30) + x.rain(2, 3) + x.put(0, 3) + x.kind(0, 1, 5);
        sum += x.prior(1, 3) + x.clear(0) + x.type(0, 0x676f3520313bL, 6) + x.clear(1) + x.type(1, 0x64696532303bL, 6);
        sum += x.fault(0) + x.sign(1, 0, 3, 4) + x.post(1, true) + x.teller(1, 1, 30, 7, 4) + x.at(0, 10);
        sum += x.must(0, 1, 0) + x.hunger(0) + x.odds(0, 1) + x.all(1) + x.where(0, 50, 7) + x.so(0) + x.lost(0);
        sum += x.next() + x.fed(1, 2) + x.dry(1, 10, 0) + x.many(0, 3, 4, 1) + x.stone(3, 9, 4, 8, 2);
        sum += x.days(0, 1, 4) + x.storm(3, true) + x.storm(3, false) + x.sails(0, 1, 2) + x.back(0, 1, 2, 3, 40);
        sum += x.part(0) + x.limb(0, 0) + x.image(0) + x.from(0) + x.status(0) + x.count(0) + x.digest();
        return sum;
    }

    private static void aNewObjectIsSmall() throws Exception {
        int[] counts = new int[2];
        measure(new WordOnPost(), counts, new java.util.IdentityHashMap<>());
        System.out.println("a new object is " + counts[0] + " objects with " + counts[1] + " fields and elements");
        must(counts[0] <= 1000 && counts[1] <= 10000, "a new object is small");
    }

    private static void measure(Object o, int[] counts, java.util.IdentityHashMap<Object, Object> seen) throws Exception {
        if (o == null || seen.put(o, o) != null) {
            return;
        }
        counts[0]++;
        if (o.getClass().isArray()) {
            int length = java.lang.reflect.Array.getLength(o);
            counts[1] += length;
            for (int i = 0; i < length && !o.getClass().getComponentType().isPrimitive(); i++) {
                measure(java.lang.reflect.Array.get(o, i), counts, seen);
            }
            return;
        }
        for (Field f : o.getClass().getDeclaredFields()) {
            if (!Modifier.isStatic(f.getModifiers())) {
                counts[1]++;
                f.setAccessible(true);
                if (!f.getType().isPrimitive()) {
                    measure(f.get(o), counts, seen);
                }
            }
        }
    }
}
