import java.lang.management.ManagementFactory;
import java.lang.reflect.Constructor;
import java.lang.reflect.Field;
import java.lang.reflect.Member;
import java.lang.reflect.Method;
import java.lang.reflect.Modifier;
import java.nio.file.Files;
import java.nio.file.Path;
import java.util.Arrays;
import java.util.HashSet;
import java.util.Set;
import java.util.TreeSet;
import java.util.regex.Matcher;
import java.util.regex.Pattern;

/** The face of the document, the rules of LANGUAGE.md that a look at the text can tell, and that the calls keep to their room. */
public final class RulesTest {
    private static final String[] FACE = {
        "long lay(int,long)", "long laid(int)", "int put(int,int,int)", "int count(int)",
        "int feed(int,int,int,int,int,int)", "int text()", "int force(int)", "int asks(int,int,int,int,int)",
        "int guard(int,int,int,int)", "int set(int,int,int)", "int guardTold(int,int)", "int at(int,int,int)",
        "long sees(int,int)", "long watched(int)", "int alone(int)", "int unseen(int)", "int worst(int)",
        "int soon(int,int,int)", "int path(int,int,int,int)", "long hides(int,int,int)", "int when(int,int)",
        "int more(int,int,int)", "int shift(int,int)", "int holds(long,int)", "int bribes(long,int)",
        "int fewest(long,int,int)", "int judge(int,int)", "long which(int)", "int laws(int,int)", "int gone(int,int)",
        "int film(int,int)", "int drawn(int)", "long mean(int,int,int)", "int image()", "int back()",
        "int sheet(int,int,int)", "int cell(int,int,int)", "int copy(int,int,int,int,int)",
        "int guardsBy(int,int,int,int)", "int taken(int,int)",
    };
    private static final Path SOURCE = Path.of("src/main/java/GuardsLookLeft.java");
    private static final Set<String> LIBRARY = Set.of("java.util.Arrays", "java.util.ArrayList", "java.util.List", "java.util.Iterator");
    private static final int LONGEST_METHOD = 60, MOST_PARAMETERS = 7, MOST_CLASSES = 12, MOST_FIELDS = 20;
    private static final int MOST_BYTES = 4 * 7_300_000 / 512;

    public static void main(String[] args) throws Exception {
        Checks k = new Checks();
        face(k);
        classes(k);
        words(k, Files.readString(SOURCE));
        lengths(k, Files.readAllLines(SOURCE));
        objects(k);
        k.end("RulesTest");
    }

    private static boolean isHidden(Member m) {
        return Modifier.isPrivate(m.getModifiers()) || m.isSynthetic();
    }

    private static void face(Checks k) {
        Set<String> due = new TreeSet<>(Arrays.asList(FACE));
        Set<String> publicNames = new HashSet<>();
        Set<String> got = new TreeSet<>();
        for (Method m : GuardsLookLeft.class.getDeclaredMethods()) {
            if (isHidden(m)) continue;
            publicNames.add(m.getName());
            StringBuilder told = new StringBuilder(m.getReturnType() + " " + m.getName() + "(");
            for (Class<?> p : m.getParameterTypes()) told.append(p).append(',');
            String all = told.toString().replaceAll(",$", "") + ")";
            got.add(Modifier.toString(m.getModifiers()).equals("public") ? all : "not just public: " + all);
        }
        if (!got.equals(due)) System.out.println("the face: " + got);
        k.due("the face", got.equals(due) ? 1 : 0, 1);
        k.due("forty-one promises", due.size() + 1, 41);
        for (Method m : GuardsLookLeft.class.getDeclaredMethods()) {
            if (isHidden(m)) k.due("private, and named as a public one: " + m, publicNames.contains(m.getName()) ? 1 : 0, 0);
        }
        Set<String> fields = new TreeSet<>();
        for (Field f : GuardsLookLeft.class.getDeclaredFields()) {
            if (!isHidden(f)) fields.add(f.getName() + " " + f.getType() + " " + Modifier.toString(f.getModifiers()));
        }
        String constant = " int public static final";
        Set<String> constants = Set.of("NONE" + constant, "BAD" + constant, "STATE" + constant, "FULL" + constant,
            "NO long public static final");
        k.due("the constants", fields.equals(constants) ? 1 : 0, 1);
        Constructor<?>[] made = GuardsLookLeft.class.getDeclaredConstructors();
        k.due("one constructor", made.length, 1);
        k.due("which is public", made[0].getModifiers(), Modifier.PUBLIC);
        k.due("a public final class", GuardsLookLeft.class.getModifiers(), Modifier.PUBLIC | Modifier.FINAL);
    }

    private static void classes(Checks k) {
        Class<?>[] inside = GuardsLookLeft.class.getDeclaredClasses();
        k.due("few classes", inside.length + 1 <= MOST_CLASSES ? 1 : 0, 1);
        Set<Class<?>> all = new HashSet<>(Arrays.asList(inside));
        for (Class<?> c : inside) {
            k.due("static: " + c, Modifier.isStatic(c.getModifiers()) ? 1 : 0, 1);
        }
        all.add(GuardsLookLeft.class);
        for (Class<?> c : all) {
            int fields = 0;
            for (Field f : c.getDeclaredFields()) {
                boolean isStatic = Modifier.isStatic(f.getModifiers());
                fields += isStatic ? 0 : 1;
                k.due("static, so final: " + f, !isStatic || Modifier.isFinal(f.getModifiers()) ? 1 : 0, 1);
            }
            k.due("few fields: " + c, fields <= MOST_FIELDS ? 1 : 0, 1);
            for (Method m : c.getDeclaredMethods()) {
                k.due("few parameters: " + m, m.getParameterCount() <= MOST_PARAMETERS ? 1 : 0, 1);
            }
        }
    }

    private static void words(Checks k, String source) {
        String bare = source.replaceAll("(?s)/\\*.*?\\*/", "").replaceAll("//.*", "");
        String[] banned = {
            "\\bthrow", "\\btry\\b", "\\bcatch\\b", "\\bsynchronized\\b", "\\bassert\\b", "->", "::", "\\bpackage\\b",
            "\\bprotected\\b", "\\bSystem\\.(?!arraycopy)", "\\bMath\\.\\w*Exact", "\\bRandom\\b", "\\bThread\\b",
            "\\bObject\\b", "\\bvolatile\\b", "\\bnative\\b", "\\bstrictfp\\b", "\\bwhile \\(true\\)", "for \\(;;\\)",
            "static \\{", "\" \\+", "\\+ \"", "@",
        };
        for (String b : banned) {
            Matcher m = Pattern.compile(b).matcher(bare);
            k.due("not in the language: " + b, m.find() ? 1 : 0, 0);
        }
        Matcher imports = Pattern.compile("import ([^;]*);").matcher(bare);
        while (imports.find()) {
            k.due("import " + imports.group(1), LIBRARY.contains(imports.group(1)) ? 1 : 0, 1);
        }
        k.due("signs of constants", source.chars().allMatch(c -> c > 0 && c < 128) ? 1 : 0, 1);
    }

    private static void lengths(Checks k, java.util.List<String> lines) {
        int begin = -1;
        for (int i = 0; i < lines.size(); i++) {
            String line = lines.get(i);
            if (line.matches(" {4,8}(?! ).*\\) \\{") && !line.matches(" *(if|for|while|switch|\\}).*")) begin = i;
            if (line.matches(" {4,8}\\}") && begin >= 0) {
                k.due("a short method at line " + (begin + 1), i - begin < LONGEST_METHOD ? 1 : 0, 1);
                if (line.indexOf('}') == lines.get(begin).replaceAll("\\S.*", "").length()) begin = -1;
            }
        }
    }

    /** The room has some 7.3 million elements for all calls of one run: the dearest call may make 1 in 512 of them. */
    private static void objects(Checks k) throws Exception {
        if (!(ManagementFactory.getThreadMXBean() instanceof com.sun.management.ThreadMXBean)) return;
        com.sun.management.ThreadMXBean bean = (com.sun.management.ThreadMXBean) ManagementFactory.getThreadMXBean();
        long thread = Thread.currentThread().getId();
        GuardsLookLeft x = new GuardsLookLeft();
        everyCall(x);
        long before = bean.getThreadAllocatedBytes(thread);
        for (int i = 0; i < 9; i++) everyCall(x);
        long made = (bean.getThreadAllocatedBytes(thread) - before) / 9;
        k.due("bytes made by all calls once: " + made, made <= MOST_BYTES ? 1 : 0, 1);
        before = bean.getThreadAllocatedBytes(thread);
        new GuardsLookLeft();
        long object = bean.getThreadAllocatedBytes(thread) - before;
        k.due("bytes of one object: " + object, object <= MOST_BYTES ? 1 : 0, 1);
    }

    private static void everyCall(GuardsLookLeft x) {
        x.image();
        x.lay(0, 1L << 20 | 1L << 9);
        x.lay(1, 1L << 21);
        x.laid(0);
        x.put(3, 2, 1);
        x.count(0);
        x.feed(5, 'r', 'e', 'a', 'c', 'h');
        x.feed(5, ' ', '9', '*', '(', '-');
        x.text();
        x.force(0);
        x.asks(0, 0, 0, 0, 0);
        x.guard(5, 14, 13, 2);
        x.set(0, 0, 7);
        x.guardTold(0, 0);
        x.at(0, 0, 0);
        x.sees(0, 0);
        x.watched(0);
        x.alone(0);
        x.unseen(0);
        x.worst(3);
        x.soon(0, 35, 0);
        x.path(0, 35, 0, 9);
        x.hides(0, 0, 24);
        x.when(0, 35);
        x.more(0, 35, 0);
        x.shift(0, 0);
        x.holds(7, 3);
        x.bribes(7, 3);
        x.fewest(7, 3, 0);
        x.film(0, 14);
        x.judge(0, 14);
        x.which(0);
        x.laws(0, 14);
        x.gone(0, 14);
        x.drawn(7);
        x.mean(7, 12, 0);
        x.back();
        x.sheet(1, 2, 40);
        x.cell(1, 3, 3);
        x.copy(1, 0, 1, 4, 9);
        x.guardsBy(1, 2, 0, 5);
        x.taken(36, 0);
    }
}
