import java.util.ArrayList;
import java.util.List;
import java.util.Random;

/** Random runs of calls, each answered by the program and by the model alike. */
public final class RandomRunsTest {
    private static final int RUNS = 600;

    /** Some forty calls more may come with the last text of a run; a builder answers 512. */
    private static final int CALLS = 460;
    private static final int ENDS = Integer.MAX_VALUE;

    private final Random random;
    private final DungeonBuilder builder = new DungeonBuilder();
    private final Model model = new Model();
    private final List<String> calls = new ArrayList<>();

    private RandomRunsTest(long seed) {
        random = new Random(seed);
    }

    public static void main(String[] args) {
        int runs = args.length > 0 ? Integer.parseInt(args[0]) : RUNS;
        for (int run = 0; run < runs && Check.clean(); run++) {
            new RandomRunsTest(run).run(run);
        }
        Check.end();
    }

    private void run(int number) {
        int kind = number % 6;
        for (int i = 0; calls.size() < CALLS && Check.clean(); i++) {
            int which = random.nextInt(100);
            if (i < 40 && kind != 4) {
                grow(kind);
            } else if (kind == 5) {
                lockAndWalk(which);
            } else if (which < 28) {
                change();
            } else if (which < 34) {
                write();
            } else {
                ask();
            }
        }
        if (!Check.clean()) {
            System.out.println("run " + number + ": " + String.join(" ", calls));
        }
    }

    private void due(String call, long got, long want) {
        calls.add(call + "=" + got);
        Check.due(call, got, want);
    }

    private int pick(int from, int to) {
        int rare = random.nextInt(60);
        if (rare == 0) {
            int[] odd = {-ENDS - 1, ENDS, from - 1, to + 1, -1, 99, 1 << 30};
            return odd[random.nextInt(odd.length)];
        }
        return to < from ? from : from + random.nextInt(to - from + 1);
    }

    private int anyRoom() {
        return pick(0, model.now.rooms.size() - 1);
    }

    private int anyCorridor() {
        return pick(0, model.now.corridors.size() - 1);
    }

    private void grow(int kind) {
        int which = random.nextInt(10);
        boolean built = kind == 0 || kind == 5;
        if (built && model.now.rooms.isEmpty()) {
            build();
        } else if (!built && which < 5) {
            addRoom(kind == 1 ? 3 : 6);
        } else if (which < 7) {
            addCorridor();
        } else if (which < 8) {
            setLock();
        } else if (which < 9) {
            setKey();
        } else {
            due("placeLock()", builder.placeLock(), model.placeLock());
        }
    }

    /** Many locks and keys of few colors, so that walks are long and of many turns. */
    private void lockAndWalk(int which) {
        int color = random.nextInt(3);
        int room = anyRoom();
        int corridor = anyCorridor();
        if (which < 12) {
            due("setLock(" + corridor + "," + color + ")", builder.setLock(corridor, color), model.setLock(corridor, color));
        } else if (which < 20) {
            due("setKey(" + room + "," + color + ")", builder.setKey(room, color), model.setKey(room, color));
        } else if (which < 24) {
            due("setEntrance(" + room + ")", builder.setEntrance(room), model.setEntrance(room));
        } else if (which < 70) {
            askWalk(room);
        } else {
            askVisit(room);
        }
    }

    private void build() {
        int seed = random.nextInt();
        int levels = pick(0, 5);
        due("build(" + seed + "," + levels + ")", builder.build(seed, levels), model.build(seed, levels));
    }

    private void addRoom(int most) {
        int w = pick(2, most);
        int h = pick(2, most);
        int x = pick(0, 24 - Math.min(Math.max(w, 0), 24));
        int y = pick(0, 16 - Math.min(Math.max(h, 0), 16));
        due("addRoom(" + x + "," + y + "," + w + "," + h + ")", builder.addRoom(x, y, w, h), model.addRoom(x, y, w, h));
    }

    private void addCorridor() {
        int a = anyRoom();
        int b = anyRoom();
        due("addCorridor(" + a + "," + b + ")", builder.addCorridor(a, b), model.addCorridor(a, b));
    }

    private void setLock() {
        int c = anyCorridor();
        int color = pick(-1, 5);
        due("setLock(" + c + "," + color + ")", builder.setLock(c, color), model.setLock(c, color));
    }

    private void setKey() {
        int room = anyRoom();
        int color = pick(-1, 5);
        due("setKey(" + room + "," + color + ")", builder.setKey(room, color), model.setKey(room, color));
    }

    private void change() {
        int a = anyRoom();
        int c = anyCorridor();
        switch (random.nextInt(18)) {
            case 0, 1 -> addRoom(12);
            case 2, 3 -> addCorridor();
            case 4, 5 -> setLock();
            case 6, 7 -> setKey();
            case 8 -> due("setEntrance(" + a + ")", builder.setEntrance(a), model.setEntrance(a));
            case 9 -> due("removeRoom(" + a + ")", builder.removeRoom(a), model.removeRoom(a));
            case 10 -> due("removeCorridor(" + c + ")", builder.removeCorridor(c), model.removeCorridor(c));
            case 11 -> {
                if (random.nextInt(4) == 0) {
                    build();
                }
            }
            case 12 -> due("addLoop()", builder.addLoop(), model.addLoop());
            case 13 -> due("placeLock()", builder.placeLock(), model.placeLock());
            case 14 -> {
                int curve = pick(0, 2);
                due("setCurve(" + curve + ")", builder.setCurve(curve), model.setCurve(curve));
            }
            case 15 -> due("undo()", builder.undo(), model.undo());
            case 16 -> due("save()", builder.save(), model.save());
            default -> {
                if (random.nextInt(3) == 0) {
                    due("restore()", builder.restore(), model.restore());
                } else {
                    due("undo()", builder.undo(), model.undo());
                }
            }
        }
    }

    private String anyCommand() {
        int rooms = Math.max(1, model.now.rooms.size());
        int paths = Math.max(1, model.now.corridors.size());
        return switch (random.nextInt(6)) {
            case 0 -> "r" + random.nextInt(20) + "," + random.nextInt(14) + "," + (2 + random.nextInt(4)) + ",0"
                    + (2 + random.nextInt(4));
            case 1 -> "c" + random.nextInt(rooms) + "," + random.nextInt(rooms);
            case 2 -> "l" + random.nextInt(paths) + "," + random.nextInt(6);
            case 3 -> "k" + random.nextInt(rooms) + ",0" + random.nextInt(6);
            case 4 -> "e" + random.nextInt(rooms);
            default -> "e0" + random.nextInt(rooms);
        };
    }

    private void write() {
        StringBuilder text = new StringBuilder(anyCommand());
        for (int i = random.nextInt(5); i > 0; i--) {
            text.append(';').append(anyCommand());
        }
        if (random.nextInt(4) == 0) {
            String odd = "rclke,;0123456789 x~";
            text.setCharAt(random.nextInt(text.length()), odd.charAt(random.nextInt(odd.length())));
        }
        for (int i = 0; i < text.length(); ) {
            int packed = 0;
            for (int j = 0; j < 4; j++) {
                boolean skip = random.nextInt(8) == 0 || i >= text.length();
                packed = packed << 8 | (skip ? 0 : text.charAt(i));
                i += skip ? 0 : 1;
            }
            due("append(" + packed + ")", builder.append(packed), model.append(packed));
        }
        if (random.nextInt(12) > 0) {
            due("read()", builder.read(), model.read());
        }
        due("faultPosition()", builder.faultPosition(), model.faultPosition());
    }

    private void ask() {
        int a = anyRoom();
        switch (random.nextInt(14)) {
            case 0, 1 -> askCounts();
            case 2, 3, 4 -> askMap();
            case 5, 6 -> askVisit(a);
            case 7 -> due("keysFound()", builder.keysFound(), model.keysFound());
            case 8 -> due("needed(" + a + ")", builder.needed(a), model.needed(a));
            case 9 -> due("missing(" + a + ")", builder.missing(a), model.missing(a));
            case 10, 11 -> askWalk(a);
            case 12 -> due("backtracking()", builder.backtracking(), model.backtracking());
            default -> due("averageBits()", builder.averageBits(), model.averageBits());
        }
    }

    private void askCounts() {
        int what = pick(0, 9);
        int a = anyRoom();
        int b = anyRoom();
        int c = anyCorridor();
        due("count(" + what + ")", builder.count(what), model.count(what));
        due("room(" + a + "," + what + ")", builder.room(a, what), model.room(a, what));
        due("corridor(" + c + "," + what % 5 + ")", builder.corridor(c, what % 5), model.corridor(c, what % 5));
        due("between(" + a + "," + b + ")", builder.between(a, b), model.between(a, b));
        due("entrance()", builder.entrance(), model.entrance());
    }

    private void askMap() {
        int x = pick(0, 23);
        int y = pick(0, 15);
        due("cell(" + x + "," + y + ")", builder.cell(x, y), model.cell(x, y));
        due("sign(" + x + "," + y + ")", builder.sign(x, y), model.sign(x, y));
        int toX = pick(0, 23);
        int toY = pick(0, 15);
        if (!model.now.rooms.isEmpty() && random.nextInt(4) > 0) {
            Model.Cell from = model.now.rooms.get(random.nextInt(model.now.rooms.size())).center();
            Model.Cell to = model.now.rooms.get(random.nextInt(model.now.rooms.size())).center();
            x = from.x();
            y = from.y();
            toX = to.x();
            toY = random.nextInt(3) > 0 ? to.y() : toY;
        }
        due("steps(" + x + "," + y + "," + toX + "," + toY + ")", builder.steps(x, y, toX, toY),
                model.steps(x, y, toX, toY));
    }

    private void askVisit(int room) {
        int index = pick(0, model.now.rooms.size());
        due("depth(" + room + ")", builder.depth(room), model.depth(room));
        due("difficulty(" + room + ")", builder.difficulty(room), model.difficulty(room));
        due("visits()", builder.visits(), model.visits());
        due("visit(" + index + ")", builder.visit(index), model.visit(index));
        due("visitedAt(" + room + ")", builder.visitedAt(room), model.visitedAt(room));
        due("isSolvable()", builder.isSolvable(), model.isSolvable());
        due("tension(" + index + ")", builder.tension(index), model.tension(index));
        due("drops()", builder.drops(), model.drops());
    }

    private void askWalk(int room) {
        int step = pick(0, Math.max(0, model.walkLength(room)));
        due("walkLength(" + room + ")", builder.walkLength(room), model.walkLength(room));
        due("walkRoom(" + room + "," + step + ")", builder.walkRoom(room, step), model.walkRoom(room, step));
        due("criticalLength()", builder.criticalLength(), model.criticalLength());
    }
}
