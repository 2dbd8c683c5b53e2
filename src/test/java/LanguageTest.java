import java.lang.reflect.Constructor;
import java.lang.reflect.Field;
import java.lang.reflect.Method;
import java.lang.reflect.Modifier;
import java.nio.file.Files;
import java.nio.file.Path;
import java.util.ArrayList;
import java.util.Arrays;
import java.util.HashSet;
import java.util.List;
import java.util.Set;
import java.util.TreeSet;
import java.util.regex.Matcher;
import java.util.regex.Pattern;

/** What can be seen of ../shared/LANGUAGE.md from outside: the face, forbidden words, sizes, the room. */
public final class LanguageTest extends Town {
    private static int wrong = 0;

    private static void must(boolean holds, String what) {
        if (!holds) { wrong++; System.out.println("not so: " + what); }
    }

    public static void main(String[] args) throws Exception {
        face();
        String source = Files.readString(source());
        words(source);
        sizes(source);
        room();
        System.out.println(wrong == 0 ? "the language is kept to" : wrong + " rules are not kept to");
        if (wrong != 0) System.exit(1);
    }

    // .ci/run tells the checkout's root; by hand it is where the test is run.
    private static Path source() {
        String root = System.getProperty("root", ".");
        return Path.of(root, "src/main/java/DyeVats.java");
    }

    private static final String[] FACE = {
        "boolean vat(int,int,int,int)", "int feed(int,int,int,int,int)", "int recipe(int,int)", "int spec(int)", "int run(int,int,int)",
        "int done(int,int)", "int proved(int,int,int,int)", "int alike(int,int,int,int,int)", "int fit(int,int,int,int,int)", "int round(int,int)",
        "int shortest(int)", "int slips(int,int,int)", "int sum(int,int,int,int)", "int order(int,int)", "boolean seed(int)", "int night(int)",
        "int keep()", "boolean undo()", "int check(int)", "int count(int)"};

    private static void face() {
        Set<String> open = new TreeSet<>();
        Set<String> names = new HashSet<>();
        for (Method m : DyeVats.class.getDeclaredMethods()) {
            if (Modifier.isPrivate(m.getModifiers())) continue;
            must(Modifier.isPublic(m.getModifiers()) && !Modifier.isStatic(m.getModifiers()), m + " is public and no static one");
            names.add(m.getName());
            List<String> types = new ArrayList<>();
            for (Class<?> c : m.getParameterTypes()) types.add(c.getName());
            open.add(m.getReturnType().getName() + " " + m.getName() + "(" + String.join(",", types) + ")");
        }
        must(open.equals(new TreeSet<>(Arrays.asList(FACE))), "the face is the document's: " + open);
        for (Constructor<?> c : DyeVats.class.getDeclaredConstructors()) must(Modifier.isPublic(c.getModifiers()) && c.getParameterCount() == 0, "one constructor");
        for (Field f : DyeVats.class.getDeclaredFields()) must(Modifier.isPrivate(f.getModifiers()) || f.getName().equals("NONE"), f + " is private");
        must(Modifier.isFinal(DyeVats.class.getModifiers()), "the class is final");
        List<Class<?>> all = new ArrayList<>(Arrays.asList(DyeVats.class.getDeclaredClasses()));
        must(all.size() < 12, "twelve classes at most");
        for (Class<?> c : all) {
            must(Modifier.isStatic(c.getModifiers()) && !Modifier.isPublic(c.getModifiers()), c + " is static and not public");
            for (Method m : c.getDeclaredMethods()) must(!names.contains(m.getName()), c + " has no method of a public one's name: " + m.getName());
        }
        all.add(DyeVats.class);
        for (Class<?> c : all) {
            int fields = 0;
            for (Field f : c.getDeclaredFields()) {
                must(!Modifier.isStatic(f.getModifiers()) || Modifier.isFinal(f.getModifiers()), f + " is final, being static");
                if (!Modifier.isStatic(f.getModifiers())) fields++;
            }
            must(fields <= 20, c + " has twenty fields at most");
            for (Method m : c.getDeclaredMethods()) must(m.getParameterCount() <= 7, m + " takes seven at most");
        }
    }

    private static void words(String source) {
        String code = source.replaceAll("(?s)/\\*.*?\\*/", "").replaceAll("//[^\n]*", "");
        String[] forbidden = {"throw", "throws", "try", "catch", "finally", "synchronized", "assert", "package", "native", "volatile", "protected", "instanceof Object",
            "equals", "hashCode", "toString", "Random", "Thread", "System\\.(?!arraycopy)\\w+", "\\w+Exact", "->", "::", "\\bnew \\w+\\(\\) *\\{", "HashMap", "Map", "Set"};
        for (String word : forbidden) {
            Matcher m = Pattern.compile(word.matches("\\w+") ? "\\b" + word + "\\b" : word).matcher(code);
            must(!m.find(), "no '" + word + "'");
        }
        Matcher imports = Pattern.compile("import ([^;]+);").matcher(code);
        while (imports.find()) must(imports.group(1).equals("java.util.Arrays"), "no import but java.util.Arrays: " + imports.group(1));
        for (int i = 0; i < source.length(); i++) must(source.charAt(i) < 128, "plain signs alone");
    }

    // A method begins at a line that ends with ") {" and stands 4 or 8 in; it ends at the brace below.
    private static void sizes(String source) {
        String[] lines = source.split("\n");
        for (int i = 0; i < lines.length; i++) {
            Matcher m = Pattern.compile("^( {4}| {8})\\S.*\\) \\{$").matcher(lines[i]);
            if (!m.matches() || lines[i].matches(" *(if|for|while|switch|\\}).*")) continue;
            int end = i;
            while (end < lines.length && !lines[end].equals(m.group(1) + "}")) end++;
            must(end - i <= 60, "a method of sixty lines at most: " + lines[i].trim());
        }
    }

    private static long made() {
        return ((com.sun.management.ThreadMXBean) java.lang.management.ManagementFactory.getThreadMXBean()).getThreadAllocatedBytes(Thread.currentThread().getId());
    }

    // A new object makes all rows; a call makes nothing, so that a run of 512 calls has room enough.
    private static void room() {
        dearest(new DyeVats());
        long before = made();
        DyeVats x = new DyeVats();
        long first = made() - before;
        must(first < 400000, "a new object takes less than 400,000 bytes: " + first);
        before = made();
        for (int i = 0; i < 3; i++) dearest(x);
        long more = made() - before;
        must(more < 20000, "calls make nothing: " + more);
    }

    private static void dearest(DyeVats x) {
        for (int v = 0; v < 6; v++) x.vat(v, v == 0 ? 1 : 3, 99, 50);
        must(recipe(x, 2, "db") == 1, "a recipe is read");
        must(recipe(x, 0, "wb(dadbpcdhef)") == 5, "a recipe is read");
        must(spec(x, "a*a+b*b-[c+d]*[e%3]<n*n*n&!(A=B|C=D)") == 1, "a spec is read");
        must(x.proved(0, 7, 20, -1) >= 0, "proved");
        must(x.alike(0, 0, 7, 20, -1) == 0, "alike");
        must(x.fit(0, 7, 20, 1, -1) >= 0, "fit");
        must(x.round(0, 0) >= 0, "round");
        must(x.slips(0, 2000, 0) >= 0, "slips");
        for (int i = 0; i < 8; i++) must(sum(x, i, 0, 10, 10, 32, 32, 32, 32, 32, 32) == 1000, "sum");
        must(x.order(255, 7) >= 0, "order");
        for (int v = 0; v < 6; v++) x.vat(v, v == 0 ? 1 : 3, v < 2 ? 99 : v == 2 ? 1 : 0, 0);
        must(shortest(x, -1, 99, 98, 0, 0, 0, 0) == -2, "shortest");
    }
}
