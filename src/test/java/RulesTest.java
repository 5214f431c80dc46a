import java.io.IOException;
import java.lang.reflect.Field;
import java.lang.reflect.InvocationTargetException;
import java.lang.reflect.Method;
import java.lang.reflect.Modifier;
import java.nio.file.Files;
import java.nio.file.Path;
import java.util.ArrayList;
import java.util.Arrays;
import java.util.List;
import java.util.NoSuchElementException;
import java.util.Random;
import java.util.TreeSet;
import java.util.regex.Matcher;
import java.util.regex.Pattern;

/** The class against LANGUAGE.md, as far as it can be looked at from outside, and wild arguments in wild order. */
public final class RulesTest {
    private static final String FACE = "int sign int|boolean end int|int moor|int fee|int cell int|int put int int"
        + "|boolean go int int|boolean weights int int|int set int int|int sheet int int int int|int step int|int alone"
        + "|int ask int|int undo|int look|int way|int reach|int never int|int best int|int fewest int int"
        + "|int should int|int safest int|int perils int|int behind int int|int loud int int|int owed|int greed int"
        + "|int honest int|boolean shelf int|int fairest int|int track int|int rain|int follow int|int warned"
        + "|int codes int int|int meant int int int int|int print int int|int wipe|long rows|int lies"
        + "|int worth int int int|int hire int|int hoarse int int|int seed int|boolean keep int|boolean again int"
        + "|int count int|long row int";
    private static final int[] WILD = {Integer.MIN_VALUE, Integer.MIN_VALUE + 1, -65536, -100, -37, -4, -3, -2, -1, 0,
        1, 2, 3, 4, 5, 6, 7, 8, 9, 10, 11, 12, 20, 30, 31, 35, 36, 37, 44, 79, 80, 81, 99, 100, 101, 143, 144, 65536,
        Integer.MAX_VALUE - 1, Integer.MAX_VALUE};
    private static final String SIGNS = "....oH#/lor0123456789+-*hxsa";

    private static final Due due = new Due("RulesTest");

    public static void main(String[] args) throws IOException, IllegalAccessException {
        due.begin("face");
        face();
        due.begin("classes");
        classes();
        due.begin("source");
        source(Files.readAllLines(Path.of("src/main/java/GuideWalksLast.java")));
        due.begin("wild calls");
        for (int seed = 0; seed < 300; seed++) {
            wildRun(new Random(seed));
        }
        due.begin("room");
        room();
        due.finish();
    }

    private static String signature(Method m) {
        StringBuilder s = new StringBuilder(m.getReturnType() + " " + m.getName());
        for (Class<?> c : m.getParameterTypes()) {
            s.append(' ').append(c);
        }
        return s.toString();
    }

    private static void face() {
        TreeSet<String> open = new TreeSet<>();
        for (Method m : GuideWalksLast.class.getDeclaredMethods()) {
            if (!Modifier.isPrivate(m.getModifiers())) {
                due.is(m.getName() + " is public", Modifier.isPublic(m.getModifiers()), true);
                open.add(signature(m));
            }
        }
        TreeSet<String> face = new TreeSet<>(Arrays.asList(FACE.split("\\|")));
        due.is("face is " + open, open.equals(face), true);
        due.is("calls", face.size(), 48);
        for (Field f : GuideWalksLast.class.getDeclaredFields()) {
            boolean isNone = f.getName().equals("NONE");
            due.is(f.getName(), Modifier.isPrivate(f.getModifiers()), !isNone);
        }
        due.is("NONE", GuideWalksLast.NONE, -1);
        due.is("constructors", GuideWalksLast.class.getDeclaredConstructors().length, 1);
        due.is("final", Modifier.isFinal(GuideWalksLast.class.getModifiers()), true);
    }

    private static void classes() {
        TreeSet<String> names = new TreeSet<>();
        for (Method m : GuideWalksLast.class.getDeclaredMethods()) {
            if (Modifier.isPublic(m.getModifiers())) {
                names.add(m.getName());
            }
        }
        List<Class<?>> all = new ArrayList<>(Arrays.asList(GuideWalksLast.class.getDeclaredClasses()));
        due.is("some twelve classes: " + all.size(), all.size() <= 12, true);
        for (Class<?> c : all) {
            due.is(c + " is static", Modifier.isStatic(c.getModifiers()), true);
            for (Method m : c.getDeclaredMethods()) {
                due.is(m + " has a name of the face", names.contains(m.getName()), false);
            }
        }
        all.add(GuideWalksLast.class);
        for (Class<?> c : all) {
            int fields = 0;
            for (Field f : c.getDeclaredFields()) {
                boolean isStatic = Modifier.isStatic(f.getModifiers());
                due.is(f + " static, not final", isStatic && !Modifier.isFinal(f.getModifiers()), false);
                fields += isStatic ? 0 : 1;
            }
            due.is("some twenty fields of " + c + ": " + fields, fields <= 20, true);
            for (Method m : c.getDeclaredMethods()) {
                due.is("parameters of " + m, m.getParameterCount() <= 7, true);
            }
        }
    }

    private static final String[] BARRED = {"->", "::", "\\bcatch\\b", "\\bfinally\\b", "\\bassert\\b", "\\btry\\b",
        "\\bsynchronized\\b", "\\bstatic \\{", "\\bvar\\b", "Exact\\b", "\\bObject\\b", "\\bprotected\\b", "@"};
    private static final String[] IMPORTS = {"import java.util.Arrays;", "import java.util.NoSuchElementException;"};
    private static final String[] LIBRARY = {"Arrays.fill", "Math.min", "Math.max", "Integer.bitCount", "Long.bitCount",
        "System.arraycopy"};

    private static void source(List<String> lines) {
        int begun = 0;
        for (int i = 0; i < lines.size(); i++) {
            String line = lines.get(i).replaceAll("'[^']*'", "' '");
            boolean isComment = line.trim().startsWith("*") || line.trim().startsWith("/");
            for (String barred : BARRED) {
                boolean isIn = !isComment && Pattern.compile(barred).matcher(line).find();
                due.is("line " + (i + 1) + " has " + barred, isIn, false);
            }
            if (line.startsWith("import")) {
                due.is(line, Arrays.asList(IMPORTS).contains(line), true);
            }
            Matcher m = Pattern.compile("\\b(Arrays|Math|Integer|Long|System|Character)\\.\\w+").matcher(line);
            while (m.find()) {
                due.is(m.group(), Arrays.asList(LIBRARY).contains(m.group()), true);
            }
            if (line.matches("    (    )?[a-zA-Z].*\\) (throws \\w+ )?\\{")) {
                begun = i;
            }
            if (line.matches("    (    )?\\}")) {
                due.is("length of the method that ends in line " + (i + 1), i - begun <= 60, true);
                begun = i;
            }
        }
    }

    private static int wild(Random random) {
        return random.nextInt(8) == 0 ? random.nextInt() : WILD[random.nextInt(WILD.length)];
    }

    private static void call(GuideWalksLast x, Method m, Random random) throws IllegalAccessException {
        Object[] arguments = new Object[m.getParameterCount()];
        for (int i = 0; i < arguments.length; i++) {
            arguments[i] = random.nextBoolean() ? wild(random) : random.nextInt(10);
        }
        try {
            m.invoke(x, arguments);
        } catch (InvocationTargetException e) {
            boolean isDue = m.getName().equals("row") && e.getCause() instanceof NoSuchElementException;
            due.is(m.getName() + Arrays.toString(arguments) + " throws " + e.getCause(), isDue, true);
        }
    }

    private static void wildRun(Random random) throws IllegalAccessException {
        GuideWalksLast x = new GuideWalksLast();
        Method[] methods = GuideWalksLast.class.getDeclaredMethods();
        List<Method> calls = new ArrayList<>();
        for (Method m : methods) {
            if (Modifier.isPublic(m.getModifiers())) {
                calls.add(m);
            }
        }
        calls.sort((a, b) -> a.getName().compareTo(b.getName()));
        for (int i = 0; i < 512; i++) {
            int kind = random.nextInt(4);
            if (kind == 0) {
                int v = 0;
                for (int j = 0; j < 4; j++) {
                    v = v << 8 | SIGNS.charAt(random.nextInt(random.nextBoolean() ? 8 : SIGNS.length()));
                }
                x.sign(v);
            } else {
                call(x, calls.get(random.nextInt(calls.size())), random);
            }
        }
    }

    /** What 512 of the dearest calls make: an object is made once, calls make next to nothing. */
    private static void room() {
        dearest(dear());
        GuideWalksLast x = dear();
        long before = bytesMade();
        dearest(x);
        long made = bytesMade() - before;
        due.is("512 calls make " + made + " bytes", made < 100_000, true);
    }

    private static GuideWalksLast dear() {
        return due.on("....../....../..o.../....../...#../.....H", 0, 0);
    }

    /** By a way that not every Java has: 0 where it is missing. */
    private static long bytesMade() {
        try {
            Object bean = Class.forName("java.lang.management.ManagementFactory").getMethod("getThreadMXBean")
                .invoke(null);
            return (long) Class.forName("com.sun.management.ThreadMXBean")
                .getMethod("getThreadAllocatedBytes", long.class).invoke(bean, Thread.currentThread().getId());
        } catch (ReflectiveOperationException | IllegalArgumentException e) {
            return 0;
        }
    }

    private static void dearest(GuideWalksLast x) {
        x.weights(3, 4);
        for (int i = 0; i < 60; i++) {
            x.loud(8, 100);
            x.fairest(5);
            x.fewest(8, 100);
            x.warned();
            x.lies();
            x.hire(5);
            x.ask(1);
            x.undo();
        }
    }
}
