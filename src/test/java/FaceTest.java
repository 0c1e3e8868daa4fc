import java.io.IOException;
import java.lang.management.ManagementFactory;
import java.lang.reflect.Constructor;
import java.lang.reflect.Field;
import java.lang.reflect.Method;
import java.lang.reflect.Modifier;
import java.nio.file.Files;
import java.nio.file.Path;
import java.util.ArrayList;
import java.util.Arrays;
import java.util.List;
import java.util.Random;
import java.util.TreeSet;

/** The public face, what can be seen of the rules of the language, and that calls make few objects and never throw. */
public final class FaceTest {
    private static final String FACE = """
            int addRoom(int,int,int,int)
            int addCorridor(int,int)
            int setLock(int,int)
            int setKey(int,int)
            int setEntrance(int)
            int removeRoom(int)
            int removeCorridor(int)
            int build(int,int)
            int addLoop()
            int placeLock()
            int setCurve(int)
            int append(int)
            int read()
            int faultPosition()
            int undo()
            int count(int)
            int room(int,int)
            int corridor(int,int)
            int between(int,int)
            int entrance()
            int cell(int,int)
            int sign(int,int)
            int steps(int,int,int,int)
            int depth(int)
            int difficulty(int)
            int visits()
            int visit(int)
            int visitedAt(int)
            int isSolvable()
            int keysFound()
            int needed(int)
            int missing(int)
            int walkLength(int)
            int walkRoom(int,int)
            int criticalLength()
            int tension(int)
            int drops()
            int backtracking()
            long averageBits()
            int save()
            int restore()
            """;
    private static final String[] CONSTANTS = {"NO_SUCH_ELEMENT", "BAD_VALUE", "FULL", "NONE", "STATE", "CONFLICT"};
    private static final Path SOURCE = Path.of("src/main/java/DungeonBuilder.java");

    public static void main(String[] args) throws Exception {
        theClass();
        theMethods();
        theConstants();
        theLanguage();
        theLengthOfMethods();
        fewObjects();
        noExceptions();
        Check.end();
    }

    private static void theClass() {
        int modifiers = DungeonBuilder.class.getModifiers();
        Check.holds("the class is public and final", Modifier.isPublic(modifiers) && Modifier.isFinal(modifiers));
        Constructor<?>[] constructors = DungeonBuilder.class.getDeclaredConstructors();
        Check.due("constructors", constructors.length, 1);
        Check.due("parameters of the constructor", constructors[0].getParameterCount(), 0);
        Check.holds("the constructor is public", Modifier.isPublic(constructors[0].getModifiers()));
        for (Class<?> inside : DungeonBuilder.class.getDeclaredClasses()) {
            boolean hidden = !Modifier.isPublic(inside.getModifiers()) && !Modifier.isProtected(inside.getModifiers());
            Check.holds(inside + " is hidden and static", hidden && Modifier.isStatic(inside.getModifiers()));
        }
        Check.holds("some twelve classes", DungeonBuilder.class.getDeclaredClasses().length <= 12);
    }

    private static void theMethods() {
        TreeSet<String> due = new TreeSet<>(Arrays.asList(FACE.strip().split("\n")));
        TreeSet<String> got = new TreeSet<>();
        TreeSet<String> names = new TreeSet<>();
        for (String line : due) {
            names.add(line.replaceAll("^\\w+ (\\w+).*", "$1"));
        }
        for (Method method : DungeonBuilder.class.getDeclaredMethods()) {
            if (Modifier.isPrivate(method.getModifiers())) {
                Check.holds(method + " has a name of its own", !names.contains(method.getName()));
                continue;
            }
            TreeSet<String> parameters = new TreeSet<>();
            StringBuilder text = new StringBuilder();
            for (Class<?> type : method.getParameterTypes()) {
                text.append(text.length() == 0 ? "" : ",").append(type.getName());
                parameters.add(type.getName());
            }
            got.add(method.getReturnType().getName() + " " + method.getName() + "(" + text + ")");
            Check.holds(method + " is public and no more", method.getModifiers() == Modifier.PUBLIC);
        }
        Check.holds("the methods are those of the document: " + got, got.equals(due));
        for (Class<?> inside : DungeonBuilder.class.getDeclaredClasses()) {
            for (Method method : inside.getDeclaredMethods()) {
                Check.holds(method + " has a name of its own", !names.contains(method.getName()));
            }
        }
    }

    private static void theConstants() throws IllegalAccessException {
        int open = 0;
        for (Field field : DungeonBuilder.class.getDeclaredFields()) {
            if (!Modifier.isPrivate(field.getModifiers())) {
                int at = Arrays.asList(CONSTANTS).indexOf(field.getName());
                Check.holds(field + " is of the document", at >= 0);
                Check.holds(field + " is a constant", field.toString().startsWith("public static final int "));
                Check.due(field.getName(), field.getInt(null), -101 - at);
                open++;
            }
            Check.holds(field + " is no static state",
                    !Modifier.isStatic(field.getModifiers()) || Modifier.isFinal(field.getModifiers()));
        }
        Check.due("constants", open, 6);
        for (Class<?> inside : DungeonBuilder.class.getDeclaredClasses()) {
            Check.holds(inside + " has some twenty fields", inside.getDeclaredFields().length <= 24);
            for (Field field : inside.getDeclaredFields()) {
                boolean state = Modifier.isStatic(field.getModifiers()) && !Modifier.isFinal(field.getModifiers());
                Check.holds(field + " is no static state", !state);
            }
        }
    }

    private static String code() throws IOException {
        String text = Files.readString(SOURCE);
        return text.replaceAll("(?s)/\\*.*?\\*/", "").replaceAll("//[^\n]*", "");
    }

    /** What the rules of the language rule out, and not what this source just does not use. */
    private static void theLanguage() throws IOException {
        String code = code().replaceAll("(?m)^\\s*(case\\b.*|default) ->", "");
        String[] forbidden = {"->", "::", "\\bfinally\\b", "\\bassert\\b", "\\bsynchronized\\b", "\\bObject\\b",
            "\\bSystem\\.(?!arraycopy)", "Exact\\(", "^package", "\\bDouble\\b", "\\bThread\\b", "\\bRandom\\b",
            "\\bjava\\.(?!util\\.(Arrays|ArrayList|List|Iterator|NoSuchElementException);)", "\\bnative\\b",
            "\\bvolatile\\b", "\\bMath\\.(random|sqrt|pow|floor\\(|ceil|round|rint|exp|log|signum)",
            "\\bArrays\\.(?!fill|copyOf)", "\\bstatic \\{"};
        for (String pattern : forbidden) {
            Check.holds("no " + pattern, !java.util.regex.Pattern.compile(pattern).matcher(code).find());
        }
        Check.holds("characters below 127", code.chars().allMatch(c -> c < 127));
    }

    /** By the layout of the source: a method begins with four or eight blanks and ends with a brace below. */
    private static void theLengthOfMethods() throws IOException {
        List<String> lines = new ArrayList<>(Files.readAllLines(SOURCE));
        for (int i = 0; i < lines.size(); i++) {
            String indent = lines.get(i).replaceAll("\\S.*", "");
            boolean method = lines.get(i).matches("( {4}| {8})\\w[^=;]*\\(.*\\) \\{");
            int end = i;
            while (method && end < lines.size() && !lines.get(end).equals(indent + "}")) {
                end++;
            }
            Check.holds("short: " + lines.get(i).strip(), end - i <= 60);
            Check.holds("at most seven parameters: " + lines.get(i), !method || lines.get(i).split(",").length <= 7);
        }
    }

    /** Calls every method of the face once, with arguments that are in range mostly. */
    private static long callAll(DungeonBuilder d, Random random, boolean wild) {
        long sum = 0;
        int a = wild ? random.nextInt() : random.nextInt(13) - 1;
        int b = wild ? random.nextInt(40) - 10 : random.nextInt(12);
        int x = wild ? random.nextInt() : random.nextInt(25);
        int y = wild ? random.nextInt(50) - 20 : random.nextInt(17);
        sum += d.build(a, b) + d.addRoom(x, y, b, a) + d.addCorridor(a, b) + d.setLock(a, b) + d.setKey(b, a);
        sum += d.setEntrance(b) + d.addLoop() + d.placeLock() + d.setCurve(b) + d.append(a) + d.append('e' << 8 | '0');
        sum += d.read() + d.faultPosition() + d.count(b) + d.room(a, b) + d.corridor(b, a) + d.between(a, b);
        sum += d.entrance() + d.cell(x, y) + d.sign(x, y) + d.steps(x, y, y, x) + d.depth(a) + d.difficulty(b);
        sum += d.visits() + d.visit(b) + d.visitedAt(b) + d.isSolvable() + d.keysFound() + d.needed(b) + d.missing(b);
        sum += d.walkLength(b) + d.walkRoom(b, a) + d.criticalLength() + d.tension(b) + d.drops() + d.backtracking();
        sum += d.averageBits() + d.save() + d.removeRoom(a) + d.removeCorridor(b) + d.undo();
        return sum + (a % 7 == 0 ? d.restore() : 0);
    }

    /**
     * All calls of a run live in one room: at 512 calls, some 14,000 fields and elements are left for each, of which a
     * call may have a small part. The builders are made before it is measured; each answers no more than 512 calls.
     */
    private static void fewObjects() {
        com.sun.management.ThreadMXBean threads =
                (com.sun.management.ThreadMXBean) ManagementFactory.getThreadMXBean();
        Random random = new Random(1);
        long thread = Thread.currentThread().getId();
        DungeonBuilder[] builders = new DungeonBuilder[160];
        for (int i = 0; i < builders.length; i++) {
            builders[i] = new DungeonBuilder();
        }
        long sum = 0;
        long before = threads.getThreadAllocatedBytes(thread);
        for (int i = 0; i < 12 * builders.length; i++) {
            sum += callAll(builders[i / 12], random, i % 5 == 0);
        }
        long made = threads.getThreadAllocatedBytes(thread) - before;
        Check.holds("78000 calls make few objects, but made bytes: " + made + ", sum " + sum, made / 78000 < 1000);
    }

    private static void noExceptions() {
        for (int seed = 0; seed < 400; seed++) {
            Random random = new Random(seed);
            DungeonBuilder d = new DungeonBuilder();
            try {
                for (int i = 0; i < 12; i++) {
                    callAll(d, random, seed % 2 == 0);
                }
                Check.holds("no exception with seed " + seed, true);
            } catch (RuntimeException e) {
                Check.holds("no exception with seed " + seed + ": " + e, false);
            }
        }
    }
}
