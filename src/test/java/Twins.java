import java.util.ArrayList;
import java.util.List;
import java.util.function.Consumer;
import java.util.function.Supplier;
import java.util.function.ToLongFunction;

/**
 * Tests what a call leaves as it was: builders are made alike, some of them are asked more, and then all that can be
 * asked must be answered alike. Each look takes builders of its own, so that none is called more than 512 times.
 */
final class Twins {
    private static final int LATEST = 6;

    private Twins() {
    }

    /** The call answers as due and leaves everything unchanged: the dungeon, the text, the history and the copy. */
    static void unchanged(String name, Supplier<DungeonBuilder> made, ToLongFunction<DungeonBuilder> call, long due) {
        Check.due(name, call.applyAsLong(made.get()), due);
        List<String> before = looks(made, d -> { }, true);
        List<String> after = looks(made, d -> call.applyAsLong(d), true);
        for (int i = 0; i < before.size(); i++) {
            Check.holds(name + " leaves all as it was: " + before.get(i) + " and then " + after.get(i),
                    before.get(i).equals(after.get(i)));
        }
    }

    /** The text of a builder without one is read and answered as due; but for the text, all is as it was before. */
    static void unread(String text, Supplier<DungeonBuilder> made, long due, long position) {
        DungeonBuilder d = made.get();
        Check.write(d, text);
        Check.due("read() of " + text, d.read(), due);
        Check.due("count(9) after reading " + text, d.count(9), 0);
        Check.due("faultPosition() of " + text, d.faultPosition(), position);
        List<String> before = looks(made, it -> { }, false);
        List<String> after = looks(made, it -> {
            Check.write(it, text);
            it.read();
        }, false);
        for (int i = 0; i < before.size(); i++) {
            Check.holds("reading " + text + " leaves all as it was: " + before.get(i) + " and then " + after.get(i),
                    before.get(i).equals(after.get(i)));
        }
    }

    private static List<String> looks(Supplier<DungeonBuilder> made, Consumer<DungeonBuilder> more, boolean text) {
        List<String> looks = new ArrayList<>();
        looks.add(Check.picture(next(made, more)));
        looks.add(map(next(made, more)));
        looks.add(visit(next(made, more)));
        looks.add(walks(next(made, more)));
        looks.add("curve " + next(made, more).setCurve(0));
        if (text) {
            looks.add("fault " + next(made, more).faultPosition());
            looks.add(text(next(made, more)));
        }
        for (int changes = 1; changes <= LATEST + 1; changes++) {
            looks.add(undone(next(made, more), changes));
        }
        looks.add(restored(next(made, more)));
        return looks;
    }

    private static DungeonBuilder next(Supplier<DungeonBuilder> made, Consumer<DungeonBuilder> more) {
        DungeonBuilder d = made.get();
        more.accept(d);
        return d;
    }

    static String map(DungeonBuilder d) {
        StringBuilder all = new StringBuilder("map\n");
        for (int y = 0; y < 16; y++) {
            for (int x = 0; x < 24; x++) {
                all.append((char) d.sign(x, y));
            }
            all.append('\n');
        }
        return all.toString();
    }

    private static String visit(DungeonBuilder d) {
        StringBuilder all = new StringBuilder("visit");
        for (int i = 0; i <= 12; i++) {
            all.append(' ').append(d.visit(i)).append(' ').append(d.visitedAt(i)).append(' ').append(d.tension(i));
        }
        all.append(' ').append(d.visits()).append(' ').append(d.drops()).append(' ').append(d.backtracking());
        return all.append(' ').append(d.keysFound()).append(' ').append(d.averageBits()).toString();
    }

    private static String walks(DungeonBuilder d) {
        StringBuilder all = new StringBuilder("walks");
        for (int room = 0; room <= 12; room++) {
            all.append(' ').append(d.depth(room)).append(' ').append(d.needed(room)).append(' ').append(d.missing(room));
            int length = d.walkLength(room);
            all.append(" (");
            for (int step = 0; step <= length; step++) {
                all.append(' ').append(d.walkRoom(room, step));
            }
            all.append(" )");
        }
        return all.append(' ').append(d.criticalLength()).toString();
    }

    private static String text(DungeonBuilder d) {
        return "text " + d.count(9) + " read " + d.read() + " fault " + d.faultPosition() + " then " + Check.picture(d);
    }

    private static String undone(DungeonBuilder d, int changes) {
        StringBuilder all = new StringBuilder("undone");
        for (int i = 0; i < changes; i++) {
            all.append(' ').append(d.undo());
        }
        return all.append(" to ").append(Check.picture(d)).toString();
    }

    private static String restored(DungeonBuilder d) {
        return "restored " + d.restore() + " undo " + d.undo() + " as " + Check.picture(d) + " curve " + d.setCurve(0);
    }
}
