import java.util.List;
import java.util.function.Supplier;
import java.util.function.ToLongFunction;

/** Questions leave everything as it was, where nothing is there, where some is and where all is full. */
public final class EdgesOfQuestionsTest {
    private static final int NONE = -104;
    private static final int STATE = -105;

    private static final List<Supplier<DungeonBuilder>> MADE = List.of(Makers::emptyWithText, Makers::rich, Makers::full);

    public static void main(String[] args) {
        Check.words("the builders that tests begin with", EdgesOfQuestionsTest::makers);
        Check.words("counts and numbers change nothing", EdgesOfQuestionsTest::counts);
        Check.words("questions about the map change nothing", EdgesOfQuestionsTest::map);
        Check.words("questions about visits change nothing", EdgesOfQuestionsTest::visits);
        Check.words("questions about walks change nothing", EdgesOfQuestionsTest::walks);
        Check.words("the same question has the same answer", EdgesOfQuestionsTest::again);
        Check.words("one object knows nothing of another", EdgesOfQuestionsTest::twoObjects);
        Check.end();
    }

    private static void makers() {
        int[][] counts = {{0, 0, 0, 0, 0, 0, 0, 0, 0, 8}, {5, 4, 2, 2}, {12, 20, 2, 2, 48}};
        int[] characters = {8, 7, 5};
        int[] faults = {9, 3, 0};
        int[] undone = {NONE, 5, 5};
        int[] entrances = {NONE, 1, 3};
        int[] curves = {0, 1, 2};
        int[] copies = {STATE, 5, 12};
        for (int i = 0; i < 3; i++) {
            Check.row("count", MADE.get(i).get()::count, counts[i]);
            Check.due("characters", MADE.get(i).get().count(9), characters[i]);
            Check.due("faultPosition()", MADE.get(i).get().faultPosition(), faults[i]);
            Check.due("undo()", MADE.get(i).get().undo(), undone[i]);
            Check.due("entrance()", MADE.get(i).get().entrance(), entrances[i]);
            Check.due("the curve", MADE.get(i).get().setCurve(0), curves[i]);
            Check.due("the copy", MADE.get(i).get().restore(), copies[i]);
        }
        for (int rooms = 2; rooms <= 7; rooms++) {
            Check.due("corridors", Makers.complete(rooms).count(1), Math.min(20, rooms * (rooms - 1) / 2));
        }
    }

    private static void harmless(String name, ToLongFunction<DungeonBuilder> question) {
        for (Supplier<DungeonBuilder> made : MADE) {
            Twins.unchanged(name, made, question, question.applyAsLong(made.get()));
        }
    }

    private static void counts() {
        for (int i = 0; i <= 9; i++) {
            int what = i;
            harmless("count(" + what + ")", d -> d.count(what));
            harmless("room(1, " + what + ")", d -> d.room(1, what));
            harmless("corridor(2, " + what + ")", d -> d.corridor(2, what));
        }
        harmless("between(0, 1)", d -> d.between(0, 1));
        harmless("between(0, 2)", d -> d.between(0, 2));
        harmless("between(11, 1)", d -> d.between(11, 1));
        harmless("entrance()", DungeonBuilder::entrance);
        harmless("faultPosition()", DungeonBuilder::faultPosition);
    }

    private static void map() {
        harmless("cell(0, 0)", d -> d.cell(0, 0));
        harmless("cell(3, 1)", d -> d.cell(3, 1));
        harmless("sign(1, 1)", d -> d.sign(1, 1));
        harmless("sign(3, 1)", d -> d.sign(3, 1));
        harmless("steps(0, 0, 5, 1)", d -> d.steps(0, 0, 5, 1));
        harmless("steps(0, 0, 0, 0)", d -> d.steps(0, 0, 0, 0));
    }

    private static void visits() {
        harmless("depth(2)", d -> d.depth(2));
        harmless("difficulty(2)", d -> d.difficulty(2));
        harmless("visits()", DungeonBuilder::visits);
        harmless("visit(0)", d -> d.visit(0));
        harmless("visit(1)", d -> d.visit(1));
        harmless("visitedAt(2)", d -> d.visitedAt(2));
        harmless("isSolvable()", DungeonBuilder::isSolvable);
        harmless("keysFound()", DungeonBuilder::keysFound);
        harmless("tension(1)", d -> d.tension(1));
        harmless("drops()", DungeonBuilder::drops);
        harmless("backtracking()", DungeonBuilder::backtracking);
        harmless("averageBits()", DungeonBuilder::averageBits);
    }

    private static void walks() {
        for (int i = 0; i < 5; i++) {
            int room = i;
            harmless("needed(" + room + ")", d -> d.needed(room));
            harmless("missing(" + room + ")", d -> d.missing(room));
            harmless("walkLength(" + room + ")", d -> d.walkLength(room));
            harmless("walkRoom(" + room + ", 1)", d -> d.walkRoom(room, 1));
        }
        harmless("criticalLength()", DungeonBuilder::criticalLength);
    }

    private static void again() {
        for (Supplier<DungeonBuilder> made : MADE) {
            DungeonBuilder d = made.get();
            String first = Check.picture(d);
            Check.holds("the same picture", first.equals(Check.picture(d)));
        }
        DungeonBuilder d = Makers.rich();
        for (int i = 0; i < 3; i++) {
            Check.due("steps(0, 0, 5, 1)", d.steps(0, 0, 5, 1), 6);
            Check.due("steps(5, 1, 0, 0)", d.steps(5, 1, 0, 0), 6);
            Check.due("walkLength(0)", d.walkLength(0), 1);
            Check.due("walkLength(4)", d.walkLength(4), NONE);
            Check.due("visits()", d.visits(), 4);
        }
    }

    private static void twoObjects() {
        DungeonBuilder one = Makers.rich();
        DungeonBuilder two = Makers.full();
        DungeonBuilder none = new DungeonBuilder();
        String first = Check.picture(Makers.rich());
        String second = Check.picture(Makers.full());
        Check.holds("the one is as alone", first.equals(Check.picture(one)));
        Check.holds("the other is as alone", second.equals(Check.picture(two)));
        Check.due("rooms of none", none.count(0), 0);
        two.save();
        one.build(1, 0);
        Check.due("the copy of the other", two.restore(), 12);
        Check.due("undo() of the one", one.undo(), 5);
        Check.holds("the one is as alone", first.equals(Check.picture(one)));
        Check.due("undo() of none", none.undo(), NONE);
    }
}
