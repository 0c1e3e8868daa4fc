import java.io.IOException;
import java.lang.reflect.Method;
import java.lang.reflect.Modifier;
import java.nio.file.Files;
import java.nio.file.Path;
import java.util.regex.Matcher;
import java.util.regex.Pattern;
import java.util.stream.Stream;

/** README.md: its examples answer as it says, and it names every call, every constant and every test. */
public final class ReadmeTest {
    private static final Pattern EXAMPLE = Pattern.compile("(?m)^dungeon\\.(\\w+)\\(([^()]*)\\); +// (-?\\d+|[A-Z_]+)\\b");
    private static final Pattern MAP = Pattern.compile("(?m)^```\n((?:[#.>+o0-9a-f]{24}\n){16})```$");
    private static final Pattern TEXT = Pattern.compile("(?m)^String text = \"(\\S+)\";$");
    private static final Pattern READ = Pattern.compile("(?m)^described\\.read\\(\\); +// (\\d+) commands");

    public static void main(String[] args) throws Exception {
        String page = Files.readString(Path.of("README.md"));
        DungeonBuilder dungeon = new DungeonBuilder();
        examples(page, dungeon);
        map(page, dungeon);
        text(page);
        names(page);
        Check.end();
    }

    private static void examples(String page, DungeonBuilder dungeon) throws ReflectiveOperationException {
        Matcher example = EXAMPLE.matcher(page);
        int found = 0;
        while (example.find()) {
            String[] numbers = example.group(2).isEmpty() ? new String[0] : example.group(2).split(", ");
            Class<?>[] types = new Class<?>[numbers.length];
            Object[] arguments = new Object[numbers.length];
            for (int i = 0; i < numbers.length; i++) {
                types[i] = int.class;
                arguments[i] = Integer.parseInt(numbers[i]);
            }
            Method method = DungeonBuilder.class.getMethod(example.group(1), types);
            String answer = example.group(3);
            int due = Character.isLetter(answer.charAt(0)) ? DungeonBuilder.class.getField(answer).getInt(null)
                    : Integer.parseInt(answer);
            Check.due(example.group(), ((Number) method.invoke(dungeon, arguments)).longValue(), due);
            found++;
        }
        Check.holds("README.md has examples: " + found, found >= 10);
    }

    private static void map(String page, DungeonBuilder dungeon) {
        Matcher map = MAP.matcher(page);
        Check.holds("README.md has a map", map.find());
        Check.holds("the map of README.md is drawn", Twins.map(dungeon).equals("map\n" + map.group(1)));
    }

    private static void text(String page) {
        Matcher text = TEXT.matcher(page);
        Matcher read = READ.matcher(page);
        Check.holds("README.md has a text that is read", text.find() && read.find());
        DungeonBuilder described = new DungeonBuilder();
        Check.write(described, text.group(1));
        Check.due("read() of " + text.group(1), described.read(), Integer.parseInt(read.group(1)));
    }

    private static void names(String page) throws IOException {
        for (Method method : DungeonBuilder.class.getDeclaredMethods()) {
            boolean open = Modifier.isPublic(method.getModifiers());
            Check.holds("README.md names " + method.getName(), !open || page.contains("`" + method.getName() + "`"));
        }
        for (java.lang.reflect.Field field : DungeonBuilder.class.getFields()) {
            Check.holds("README.md names " + field.getName(), page.contains("| `" + field.getName() + "` "));
        }
        try (Stream<Path> files = Files.list(Path.of("src/test/java"))) {
            files.forEach(file -> {
                String name = file.getFileName().toString().replace(".java", "");
                Check.holds("README.md names " + name, page.contains("`" + name + "`"));
            });
        }
    }
}
