import java.util.function.Supplier;

/**
 * All calls with numbers at and beside every edge that the document names, and at the ends of the ints, each on builders
 * without anything, with some and with as much as there can be; the model says what is due. A builder is used for some
 * questions only, or for one change.
 */
public final class ExtremesTest {
    private static final int MIN = Integer.MIN_VALUE;
    private static final int MAX = Integer.MAX_VALUE;

    private static final int[] EDGES = {MIN, MIN + 1, MIN + 32, -1000, -25, -24, -13, -12, -3, -2, -1, 0, 1, 2, 3, 4, 5,
            6, 7, 8, 9, 10,
        11, 12, 13, 14, 15, 16, 17, 19, 20, 21, 22, 23, 24, 25, 31, 32, 33, 63, 64, 127, 255, 256, 512, 999, 1000, 65536,
                1 << 30,
        MAX - 32, MAX - 1, MAX};
    private static final int[] FEW = {MIN, -2, -1, 0, 1, 4, 5, 6, 8, 11, 12, 19, 20, 32, MAX};
    private static final int[] COLUMNS = {MIN, -1, 0, 12, 13, 21, 22, 23, 24, MAX};
    private static final int[] ROWS = {MIN, -1, 0, 4, 5, 13, 14, 15, 16, MAX};
    private static final int[] SIDES = {MIN, 1, 2, 12, 13, MAX};

    private static final String[][] TEXTS = {
        {},
        {"r0,0,2,3;r4,0,3,2;r8,1,5,4;r16,0,7,3;r16,4,4,8", "c0,1;c1,2;c2,3;c0,3;l1,2;k0,2;k3,5;l2,0;e1"},
        {"r0,0,2,2;r4,0,2,2;r8,0,2,2;r12,0,2,2;r16,0,2,2;r20,0,2,2",
                "r0,8,2,2;r4,8,2,2;r8,8,2,2;r12,8,2,2;r16,8,2,2;r20,8,2,2",
            "c0,1;c0,2;c0,3;c0,4;c0,5;c0,6;c0,7;c0,8;c0,9;c0,10;c0,11", "c1,2;c1,3;c1,4;c1,5;c1,6;c1,7;c1,8;c1,9;c1,10",
            "l0,0;l5,1;l10,2;l19,3;k11,3;k0,1;k1,0;e3"},
    };

    private interface OnBuilder {
        long ask(DungeonBuilder d, int a, int b);
    }

    private interface OnModel {
        long ask(Model m, int a, int b);
    }

    public static void main(String[] args) {
        for (String[] texts : TEXTS) {
            questions(texts);
            pairsOfQuestions(texts);
            steps(texts);
            changes(texts);
            rooms(texts);
        }
        Check.end();
    }

    private static DungeonBuilder builder(String[] texts) {
        return Check.made(texts);
    }

    private static Model model(String[] texts) {
        Model m = new Model();
        for (String text : texts) {
            for (char sign : text.toCharArray()) {
                m.append(sign);
            }
            m.read();
        }
        return m;
    }

    private static void one(String name, String[] texts, OnBuilder asked, OnModel due) {
        DungeonBuilder d = builder(texts);
        Model m = model(texts);
        for (int a : EDGES) {
            Check.due(name + " of " + a + " with " + texts.length, asked.ask(d, a, 0), due.ask(m, a, 0));
        }
    }

    private static void questions(String[] texts) {
        one("count", texts, (d, a, b) -> d.count(a), (m, a, b) -> m.count(a));
        one("depth", texts, (d, a, b) -> d.depth(a), (m, a, b) -> m.depth(a));
        one("difficulty", texts, (d, a, b) -> d.difficulty(a), (m, a, b) -> m.difficulty(a));
        one("visit", texts, (d, a, b) -> d.visit(a), (m, a, b) -> m.visit(a));
        one("visitedAt", texts, (d, a, b) -> d.visitedAt(a), (m, a, b) -> m.visitedAt(a));
        one("needed", texts, (d, a, b) -> d.needed(a), (m, a, b) -> m.needed(a));
        one("missing", texts, (d, a, b) -> d.missing(a), (m, a, b) -> m.missing(a));
        one("walkLength", texts, (d, a, b) -> d.walkLength(a), (m, a, b) -> m.walkLength(a));
        one("tension", texts, (d, a, b) -> d.tension(a), (m, a, b) -> m.tension(a));
        one("faultPosition", texts, (d, a, b) -> d.faultPosition(), (m, a, b) -> m.faultPosition());
        one("entrance", texts, (d, a, b) -> d.entrance(), (m, a, b) -> m.entrance());
        one("averageBits", texts, (d, a, b) -> d.averageBits(), (m, a, b) -> m.averageBits());
    }

    private static void two(String name, String[] texts, int[] first, int[] second, OnBuilder asked, OnModel due) {
        Model m = model(texts);
        for (int a : first) {
            DungeonBuilder d = builder(texts);
            for (int b : second) {
                String call = name + "(" + a + ", " + b + ") with " + texts.length;
                Check.due(call, asked.ask(d, a, b), due.ask(m, a, b));
            }
        }
    }

    private static void pairsOfQuestions(String[] texts) {
        two("room", texts, EDGES, EDGES, (d, a, b) -> d.room(a, b), (m, a, b) -> m.room(a, b));
        two("corridor", texts, EDGES, EDGES, (d, a, b) -> d.corridor(a, b), (m, a, b) -> m.corridor(a, b));
        two("between", texts, EDGES, EDGES, (d, a, b) -> d.between(a, b), (m, a, b) -> m.between(a, b));
        two("cell", texts, EDGES, EDGES, (d, a, b) -> d.cell(a, b), (m, a, b) -> m.cell(a, b));
        two("sign", texts, EDGES, EDGES, (d, a, b) -> d.sign(a, b), (m, a, b) -> m.sign(a, b));
        two("walkRoom", texts, EDGES, EDGES, (d, a, b) -> d.walkRoom(a, b), (m, a, b) -> m.walkRoom(a, b));
    }

    private static void steps(String[] texts) {
        Model m = model(texts);
        for (int x : COLUMNS) {
            for (int y : ROWS) {
                DungeonBuilder d = builder(texts);
                for (int toX : COLUMNS) {
                    for (int toY : ROWS) {
                        String call = "steps(" + x + ", " + y + ", " + toX + ", " + toY + ") with " + texts.length;
                        Check.due(call, d.steps(x, y, toX, toY), m.steps(x, y, toX, toY));
                    }
                }
            }
        }
    }

    private static String brief(DungeonBuilder d) {
        return d.count(0) + " " + d.count(1) + " " + d.count(2) + " " + d.count(3) + " " + d.count(4) + " " + d.count(5) + " "
                + d.count(9) + " " + d.entrance() + " " + d.averageBits() + " " + d.keysFound() + " " + d.undo();
    }

    private static String brief(Model m) {
        return m.count(0) + " " + m.count(1) + " " + m.count(2) + " " + m.count(3) + " " + m.count(4) + " " + m.count(5) + " "
                + m.count(9) + " " + m.entrance() + " " + m.averageBits() + " " + m.keysFound() + " " + m.undo();
    }

    private static void change(String call, String[] texts, OnBuilder asked, OnModel due, int a, int b) {
        DungeonBuilder d = builder(texts);
        Model m = model(texts);
        Check.due(call + " with " + texts.length, asked.ask(d, a, b), due.ask(m, a, b));
        String got = brief(d);
        String want = brief(m);
        Check.holds("after " + call + " there is " + got + ", due is " + want, got.equals(want));
    }

    private static void changes(String[] texts) {
        for (int a : EDGES) {
            String call = "(" + a + ")";
            change("setEntrance" + call, texts, (d, i, j) -> d.setEntrance(i), (m, i, j) -> m.setEntrance(i), a, 0);
            change("removeRoom" + call, texts, (d, i, j) -> d.removeRoom(i), (m, i, j) -> m.removeRoom(i), a, 0);
            change("removeCorridor" + call, texts, (d, i, j) -> d.removeCorridor(i), (m, i, j) -> m.removeCorridor(i), a,
                    0);
            change("setCurve" + call, texts, (d, i, j) -> d.setCurve(i), (m, i, j) -> m.setCurve(i), a, 0);
            change("append" + call, texts, (d, i, j) -> d.append(i), (m, i, j) -> m.append(i), a, 0);
            change("build(7, " + a + ")", texts, (d, i, j) -> d.build(7, i), (m, i, j) -> m.build(7, i), a, 0);
            change("build(" + a + ", 5)", texts, (d, i, j) -> d.build(i, 5), (m, i, j) -> m.build(i, 5), a, 0);
        }
        for (int a : FEW) {
            for (int b : FEW) {
                String call = "(" + a + ", " + b + ")";
                change("addCorridor" + call, texts, (d, i, j) -> d.addCorridor(i, j), (m, i, j) -> m.addCorridor(i, j),
                        a, b);
                change("setLock" + call, texts, (d, i, j) -> d.setLock(i, j), (m, i, j) -> m.setLock(i, j), a, b);
                change("setKey" + call, texts, (d, i, j) -> d.setKey(i, j), (m, i, j) -> m.setKey(i, j), a, b);
            }
        }
    }

    private static void rooms(String[] texts) {
        Supplier<DungeonBuilder> made = () -> builder(texts);
        for (int x : COLUMNS) {
            for (int y : ROWS) {
                for (int w : SIDES) {
                    for (int h : SIDES) {
                        String call = "addRoom(" + x + ", " + y + ", " + w + ", " + h + ") with " + texts.length;
                        Check.due(call, made.get().addRoom(x, y, w, h), model(texts).addRoom(x, y, w, h));
                    }
                }
            }
        }
    }
}
