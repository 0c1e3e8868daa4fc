import java.util.ArrayDeque;
import java.util.ArrayList;
import java.util.Deque;
import java.util.HashSet;
import java.util.LinkedHashSet;
import java.util.List;
import java.util.Map;
import java.util.Set;
import java.util.TreeMap;
import java.util.TreeSet;
import java.util.regex.Matcher;
import java.util.regex.Pattern;

/**
 * The document once more, said as directly as possible with the whole library at hand: what is asked "without" a
 * corridor, a key or a lock is asked of a copy that lacks it. It serves to compare random runs of calls.
 */
final class Model {
    static final int NO_SUCH_ELEMENT = -101;
    static final int BAD_VALUE = -102;
    static final int FULL = -103;
    static final int NONE = -104;
    static final int STATE = -105;
    static final int CONFLICT = -106;

    record Cell(int x, int y) {
        boolean inMap() {
            return x >= 0 && x < 24 && y >= 0 && y < 16;
        }
    }

    record Room(int x, int y, int w, int h, int key) {
        Cell center() {
            return new Cell(x + w / 2, y + h / 2);
        }

        Set<Cell> cells() {
            Set<Cell> all = new HashSet<>();
            for (int i = x; i < x + w; i++) {
                for (int j = y; j < y + h; j++) {
                    all.add(new Cell(i, j));
                }
            }
            return all;
        }
    }

    record Corridor(int a, int b, int lock) {
        boolean has(int room) {
            return a == room || b == room;
        }
    }

    record Part(int x, int y, int w, int h) {
    }

    /** What can be undone, saved and restored. */
    static final class Dungeon {
        List<Room> rooms = new ArrayList<>();
        List<Corridor> corridors = new ArrayList<>();
        int entrance = 0;
        int curve = 0;

        Dungeon copy() {
            Dungeon d = new Dungeon();
            d.rooms.addAll(rooms);
            d.corridors.addAll(corridors);
            d.entrance = entrance;
            d.curve = curve;
            return d;
        }

        Dungeon withoutCorridor(int c) {
            Dungeon d = copy();
            d.corridors.remove(c);
            return d;
        }

        Dungeon withoutKeys(int color) {
            Dungeon d = copy();
            d.rooms.replaceAll(r -> r.key == color ? new Room(r.x, r.y, r.w, r.h, -1) : r);
            return d;
        }

        Dungeon withoutLocks(int color) {
            Dungeon d = copy();
            d.corridors.replaceAll(c -> c.lock == color ? new Corridor(c.a, c.b, -1) : c);
            return d;
        }

        Dungeon from(int room) {
            Dungeon d = copy();
            d.entrance = room;
            return d;
        }

        boolean has(int room) {
            return room >= 0 && room < rooms.size();
        }

        boolean hasCorridor(int c) {
            return c >= 0 && c < corridors.size();
        }

        int between(int a, int b) {
            for (int c = 0; c < corridors.size(); c++) {
                Corridor it = corridors.get(c);
                if (it.a == a && it.b == b || it.a == b && it.b == a) {
                    return c;
                }
            }
            return NONE;
        }

        int distance(int a, int b) {
            Cell p = rooms.get(a).center();
            Cell q = rooms.get(b).center();
            return Math.abs(p.x - q.x) + Math.abs(p.y - q.y);
        }

        Map<Cell, Integer> roomCells() {
            Map<Cell, Integer> all = new java.util.HashMap<>();
            for (int r = 0; r < rooms.size(); r++) {
                for (Cell cell : rooms.get(r).cells()) {
                    all.put(cell, r);
                }
            }
            return all;
        }

        Set<Cell> cellsOf(int c) {
            Cell at = rooms.get(corridors.get(c).a).center();
            Cell to = rooms.get(corridors.get(c).b).center();
            Set<Cell> all = new LinkedHashSet<>();
            all.add(at);
            while (!at.equals(to)) {
                boolean sideways = c % 2 == 0 ? at.x != to.x : at.y == to.y;
                at = sideways ? new Cell(at.x + Integer.compare(to.x, at.x), at.y)
                        : new Cell(at.x, at.y + Integer.compare(to.y, at.y));
                all.add(at);
            }
            all.removeAll(roomCells().keySet());
            return all;
        }

        int[] depths() {
            int[] depth = new int[rooms.size()];
            java.util.Arrays.fill(depth, -1);
            Deque<Integer> queue = new ArrayDeque<>();
            if (!rooms.isEmpty()) {
                depth[entrance] = 0;
                queue.add(entrance);
            }
            while (!queue.isEmpty()) {
                int room = queue.remove();
                for (int other = 0; other < rooms.size(); other++) {
                    if (depth[other] < 0 && between(room, other) >= 0) {
                        depth[other] = depth[room] + 1;
                        queue.add(other);
                    }
                }
            }
            return depth;
        }

        int difficulty(int room) {
            int depth = depths()[room];
            long own = corridors.stream().filter(c -> c.has(room)).count();
            if (depth < 0) {
                return 500;
            }
            Room r = rooms.get(room);
            return switch (curve) {
                case 0 -> 10 * depth;
                case 1 -> depth * depth + (int) Math.floor(r.w * r.h / 4.0);
                default -> (int) (100 - 10 * own + depth);
            };
        }

        Set<Integer> colorsIn(Iterable<Integer> visited) {
            Set<Integer> colors = new TreeSet<>();
            for (int room : visited) {
                colors.add(rooms.get(room).key);
            }
            colors.remove(-1);
            return colors;
        }

        List<Integer> visit() {
            List<Integer> order = new ArrayList<>();
            if (rooms.isEmpty()) {
                return order;
            }
            order.add(entrance);
            while (true) {
                Set<Integer> colors = colorsIn(order);
                TreeMap<Integer, Integer> next = new TreeMap<>();
                for (Corridor c : corridors) {
                    boolean open = c.lock < 0 || colors.contains(c.lock);
                    boolean leaves = order.contains(c.a) != order.contains(c.b);
                    if (open && leaves) {
                        int room = order.contains(c.a) ? c.b : c.a;
                        next.put(difficulty(room) * 100 + room, room);
                    }
                }
                if (next.isEmpty()) {
                    return order;
                }
                order.add(next.firstEntry().getValue());
            }
        }

        /** Shortest and, of these, least walks, length by length; null where there is none. */
        List<List<Integer>> walks() {
            List<List<Integer>> best = new ArrayList<>();
            rooms.forEach(r -> best.add(null));
            Map<String, List<Integer>> level = new TreeMap<>();
            Set<String> seen = new HashSet<>();
            if (!rooms.isEmpty()) {
                level.put(state(List.of(entrance)), List.of(entrance));
            }
            while (!level.isEmpty()) {
                for (List<Integer> walk : level.values()) {
                    int end = walk.get(walk.size() - 1);
                    List<Integer> old = best.get(end);
                    if (old == null || old.size() == walk.size() && less(walk, old)) {
                        best.set(end, walk);
                    }
                }
                seen.addAll(level.keySet());
                level = longer(level, seen);
            }
            return best;
        }

        private Map<String, List<Integer>> longer(Map<String, List<Integer>> level, Set<String> seen) {
            Map<String, List<Integer>> next = new TreeMap<>();
            for (List<Integer> walk : level.values()) {
                int end = walk.get(walk.size() - 1);
                for (Corridor c : corridors) {
                    if (c.has(end) && (c.lock < 0 || colorsIn(walk).contains(c.lock))) {
                        List<Integer> more = new ArrayList<>(walk);
                        more.add(c.a == end ? c.b : c.a);
                        String state = state(more);
                        if (!seen.contains(state)) {
                            next.merge(state, more, (p, q) -> less(p, q) ? p : q);
                        }
                    }
                }
            }
            return next;
        }

        private String state(List<Integer> walk) {
            return walk.get(walk.size() - 1) + " " + colorsIn(walk);
        }

        private static boolean less(List<Integer> p, List<Integer> q) {
            for (int i = 0; i < p.size(); i++) {
                if (!p.get(i).equals(q.get(i))) {
                    return p.get(i) < q.get(i);
                }
            }
            return false;
        }

        int groups() {
            Set<Set<Integer>> groups = new HashSet<>();
            for (int r = 0; r < rooms.size(); r++) {
                int[] depth = from(r).depths();
                Set<Integer> group = new TreeSet<>();
                for (int other = 0; other < depth.length; other++) {
                    if (depth[other] >= 0) {
                        group.add(other);
                    }
                }
                groups.add(group);
            }
            return groups.size();
        }
    }

    private static final String NUMBER = "[0-9]{1,2}";
    private static final String COMMAND = "(r" + NUMBER + "(," + NUMBER + "){3}|[clk]" + NUMBER + "," + NUMBER + "|e"
            + NUMBER + ")";
    private static final Pattern TEXT = Pattern.compile(COMMAND + "(;" + COMMAND + ")*");

    Dungeon now = new Dungeon();
    private Dungeon saved = null;
    private final Deque<Dungeon> history = new ArrayDeque<>();
    private String text = "";
    private int fault = NONE;
    private int random = 0;

    private static boolean isError(int answer) {
        return answer <= NO_SUCH_ELEMENT;
    }

    private int changed(Dungeon before, int answer, boolean noneIsFine) {
        if (!isError(answer) || noneIsFine && answer == NONE) {
            history.addLast(before);
            if (history.size() > 6) {
                history.removeFirst();
            }
        }
        return answer;
    }

    int addRoom(int x, int y, int w, int h) {
        return changed(now.copy(), add(x, y, w, h), false);
    }

    private int add(int x, int y, int w, int h) {
        if (w < 2 || w > 12 || h < 2 || h > 12 || x < 0 || y < 0 || (long) x + w > 24 || (long) y + h > 16) {
            return BAD_VALUE;
        }
        Room made = new Room(x, y, w, h, -1);
        Set<Cell> shared = new HashSet<>(now.roomCells().keySet());
        shared.retainAll(made.cells());
        if (!shared.isEmpty()) {
            return CONFLICT;
        }
        if (now.rooms.size() == 12) {
            return FULL;
        }
        now.rooms.add(made);
        return now.rooms.size() - 1;
    }

    int addCorridor(int a, int b) {
        return changed(now.copy(), connect(a, b), false);
    }

    private int connect(int a, int b) {
        if (!now.has(a) || !now.has(b)) {
            return NO_SUCH_ELEMENT;
        }
        if (a == b) {
            return BAD_VALUE;
        }
        if (now.between(a, b) != NONE) {
            return CONFLICT;
        }
        if (now.corridors.size() == 20) {
            return FULL;
        }
        now.corridors.add(new Corridor(Math.min(a, b), Math.max(a, b), -1));
        return now.corridors.size() - 1;
    }

    int setLock(int c, int color) {
        return changed(now.copy(), lock(c, color), true);
    }

    private int lock(int c, int color) {
        if (!now.hasCorridor(c)) {
            return NO_SUCH_ELEMENT;
        }
        if (color < -1 || color > 5) {
            return BAD_VALUE;
        }
        Corridor old = now.corridors.get(c);
        now.corridors.set(c, new Corridor(old.a, old.b, color));
        return old.lock < 0 ? NONE : old.lock;
    }

    int setKey(int room, int color) {
        return changed(now.copy(), key(room, color), true);
    }

    private int key(int room, int color) {
        if (!now.has(room)) {
            return NO_SUCH_ELEMENT;
        }
        if (color < -1 || color > 5) {
            return BAD_VALUE;
        }
        Room old = now.rooms.get(room);
        now.rooms.set(room, new Room(old.x, old.y, old.w, old.h, color));
        return old.key < 0 ? NONE : old.key;
    }

    int setEntrance(int room) {
        return changed(now.copy(), enter(room), false);
    }

    private int enter(int room) {
        if (!now.has(room)) {
            return NO_SUCH_ELEMENT;
        }
        int previous = now.entrance;
        now.entrance = room;
        return previous;
    }

    int removeRoom(int room) {
        if (!now.has(room)) {
            return NO_SUCH_ELEMENT;
        }
        Dungeon before = now.copy();
        now.rooms.remove(room);
        now.corridors.removeIf(c -> c.has(room));
        now.corridors.replaceAll(c -> new Corridor(c.a > room ? c.a - 1 : c.a, c.b > room ? c.b - 1 : c.b, c.lock));
        if (now.entrance == room) {
            now.entrance = 0;
        } else if (now.entrance > room) {
            now.entrance--;
        }
        return changed(before, now.rooms.size(), false);
    }

    int removeCorridor(int c) {
        if (!now.hasCorridor(c)) {
            return NO_SUCH_ELEMENT;
        }
        Dungeon before = now.copy();
        now.corridors.remove(c);
        return changed(before, now.corridors.size(), false);
    }

    private int draw(int n) {
        random = random * 1103515245 + 12345;
        return ((random >>> 16) & 32767) % n;
    }

    int build(int seed, int levels) {
        if (levels < 0 || levels > 5) {
            return BAD_VALUE;
        }
        Dungeon before = now.copy();
        now.rooms.clear();
        now.corridors.clear();
        now.entrance = 0;
        random = seed;
        List<Part> leaves = new ArrayList<>();
        List<int[]> joints = new ArrayList<>();
        partition(new Part(0, 0, 24, 16), 0, levels, leaves, joints);
        for (Part part : leaves) {
            int w = Math.min(12, 3 + draw(part.w - 4));
            int h = Math.min(12, 3 + draw(part.h - 4));
            int x = part.x + 1 + draw(part.w - w - 1);
            int y = part.y + 1 + draw(part.h - h - 1);
            now.rooms.add(new Room(x, y, w, h, -1));
        }
        for (int[] joint : joints) {
            TreeMap<Integer, int[]> pairs = new TreeMap<>();
            for (int a = joint[0]; a < joint[1]; a++) {
                for (int b = joint[1]; b < joint[2]; b++) {
                    pairs.put(now.distance(a, b) * 10000 + a * 100 + b, new int[] {a, b});
                }
            }
            int[] best = pairs.firstEntry().getValue();
            now.corridors.add(new Corridor(best[0], best[1], -1));
        }
        return changed(before, now.rooms.size(), false);
    }

    private void partition(Part p, int level, int levels, List<Part> leaves, List<int[]> joints) {
        boolean wide = p.w >= 10;
        boolean tall = p.h >= 10;
        if (level >= levels || !wide && !tall) {
            leaves.add(p);
            return;
        }
        boolean beside = wide;
        if (wide && tall) {
            beside = draw(2) == 0;
        }
        int size = 5 + draw((beside ? p.w : p.h) - 9);
        Part first = beside ? new Part(p.x, p.y, size, p.h) : new Part(p.x, p.y, p.w, size);
        Part second = beside ? new Part(p.x + size, p.y, p.w - size, p.h) : new Part(p.x, p.y + size, p.w, p.h - size);
        int from = leaves.size();
        partition(first, level + 1, levels, leaves, joints);
        int middle = leaves.size();
        partition(second, level + 1, levels, leaves, joints);
        joints.add(new int[] {from, middle, leaves.size()});
    }

    int addLoop() {
        TreeMap<Integer, int[]> pairs = new TreeMap<>();
        for (int a = 0; a < now.rooms.size(); a++) {
            for (int b = a + 1; b < now.rooms.size(); b++) {
                if (now.between(a, b) == NONE) {
                    pairs.put(now.distance(a, b) * 10000 + a * 100 + b, new int[] {a, b});
                }
            }
        }
        if (pairs.isEmpty()) {
            return NONE;
        }
        int[] best = pairs.firstEntry().getValue();
        return addCorridor(best[0], best[1]);
    }

    int placeLock() {
        TreeMap<Integer, Integer> candidates = new TreeMap<>();
        int[] depths = now.depths();
        for (int c = 0; c < now.corridors.size(); c++) {
            int[] without = now.withoutCorridor(c).depths();
            int far = 0;
            for (int r = 0; r < depths.length; r++) {
                far += depths[r] >= 0 && without[r] < 0 ? 1 : 0;
            }
            if (far > 0 && now.corridors.get(c).lock < 0) {
                candidates.put(Math.abs(2 * far - depths.length) * 100 + c, c);
            }
        }
        if (candidates.isEmpty()) {
            return NONE;
        }
        int chosen = candidates.firstEntry().getValue();
        TreeSet<Integer> colors = new TreeSet<>(List.of(0, 1, 2, 3, 4, 5));
        now.rooms.forEach(r -> colors.remove(r.key));
        now.corridors.forEach(c -> colors.remove(c.lock));
        if (colors.isEmpty()) {
            return FULL;
        }
        TreeMap<Integer, Integer> places = new TreeMap<>();
        for (int room : now.withoutCorridor(chosen).visit()) {
            if (now.rooms.get(room).key < 0) {
                places.put(-100 * depths[room] + room, room);
            }
        }
        if (places.isEmpty()) {
            return STATE;
        }
        Dungeon before = now.copy();
        lock(chosen, colors.first());
        key(places.firstEntry().getValue(), colors.first());
        return changed(before, chosen, false);
    }

    int setCurve(int curve) {
        if (curve < 0 || curve > 2) {
            return BAD_VALUE;
        }
        Dungeon before = now.copy();
        int previous = now.curve;
        now.curve = curve;
        return changed(before, previous, false);
    }

    int append(int packed) {
        String more = "";
        for (int shift : new int[] {24, 16, 8, 0}) {
            int code = packed >> shift & 0xff;
            if (code != 0 && (code < 33 || code > 126)) {
                return BAD_VALUE;
            }
            more += code == 0 ? "" : String.valueOf((char) code);
        }
        if (text.length() + more.length() > 60) {
            return FULL;
        }
        text += more;
        return text.length();
    }

    int read() {
        String whole = text;
        text = "";
        for (int end = 1; end <= whole.length(); end++) {
            Matcher m = TEXT.matcher(whole.substring(0, end));
            if (!m.matches() && !m.hitEnd()) {
                fault = end - 1;
                return BAD_VALUE;
            }
        }
        if (!TEXT.matcher(whole).matches()) {
            fault = whole.length();
            return BAD_VALUE;
        }
        Dungeon before = now.copy();
        int at = 0;
        int commands = 0;
        for (String command : whole.split(";")) {
            int answer = execute(command);
            if (isError(answer) && !(answer == NONE && "lk".indexOf(command.charAt(0)) >= 0)) {
                now = before;
                fault = at;
                return STATE;
            }
            at += command.length() + 1;
            commands++;
        }
        fault = NONE;
        return changed(before, commands, false);
    }

    private int execute(String command) {
        String[] words = command.substring(1).split(",");
        int[] n = new int[4];
        for (int i = 0; i < words.length; i++) {
            n[i] = Integer.parseInt(words[i]);
        }
        return switch (command.charAt(0)) {
            case 'r' -> add(n[0], n[1], n[2], n[3]);
            case 'c' -> connect(n[0], n[1]);
            case 'l' -> lock(n[0], n[1]);
            case 'k' -> key(n[0], n[1]);
            default -> enter(n[0]);
        };
    }

    int faultPosition() {
        return fault;
    }

    int undo() {
        if (history.isEmpty()) {
            return NONE;
        }
        now = history.removeLast();
        return history.size();
    }

    int count(int what) {
        Set<Cell> paths = new HashSet<>();
        for (int c = 0; c < now.corridors.size(); c++) {
            paths.addAll(now.cellsOf(c));
        }
        return switch (what) {
            case 0 -> now.rooms.size();
            case 1 -> now.corridors.size();
            case 2 -> (int) now.corridors.stream().filter(c -> c.lock >= 0).count();
            case 3 -> (int) now.rooms.stream().filter(r -> r.key >= 0).count();
            case 4 -> now.roomCells().size();
            case 5 -> paths.size();
            case 6 -> {
                int single = 0;
                for (int r = 0; r < now.rooms.size(); r++) {
                    single += degree(r) == 1 ? 1 : 0;
                }
                yield single;
            }
            case 7 -> now.groups();
            case 8 -> {
                int bridges = 0;
                for (int c = 0; c < now.corridors.size(); c++) {
                    bridges += now.withoutCorridor(c).groups() > now.groups() ? 1 : 0;
                }
                yield bridges;
            }
            case 9 -> text.length();
            default -> BAD_VALUE;
        };
    }

    private int degree(int room) {
        return (int) now.corridors.stream().filter(c -> c.has(room)).count();
    }

    int room(int room, int what) {
        if (!now.has(room)) {
            return NO_SUCH_ELEMENT;
        }
        Room r = now.rooms.get(room);
        return switch (what) {
            case 0 -> r.x;
            case 1 -> r.y;
            case 2 -> r.w;
            case 3 -> r.h;
            case 4 -> r.key < 0 ? NONE : r.key;
            case 5 -> degree(room);
            case 6 -> r.center().x;
            case 7 -> r.center().y;
            default -> BAD_VALUE;
        };
    }

    int corridor(int c, int what) {
        if (!now.hasCorridor(c)) {
            return NO_SUCH_ELEMENT;
        }
        Corridor it = now.corridors.get(c);
        return switch (what) {
            case 0 -> it.a;
            case 1 -> it.b;
            case 2 -> it.lock < 0 ? NONE : it.lock;
            case 3 -> now.cellsOf(c).size();
            default -> BAD_VALUE;
        };
    }

    int between(int a, int b) {
        return now.has(a) && now.has(b) ? now.between(a, b) : NO_SUCH_ELEMENT;
    }

    int entrance() {
        return now.rooms.isEmpty() ? NONE : now.entrance;
    }

    private List<Integer> corridorsAt(Cell cell) {
        List<Integer> all = new ArrayList<>();
        for (int c = 0; c < now.corridors.size(); c++) {
            if (now.cellsOf(c).contains(cell)) {
                all.add(c);
            }
        }
        return all;
    }

    int cell(int x, int y) {
        Cell cell = new Cell(x, y);
        if (!cell.inMap()) {
            return NO_SUCH_ELEMENT;
        }
        Integer room = now.roomCells().get(cell);
        List<Integer> paths = corridorsAt(cell);
        return room != null ? room : paths.isEmpty() ? NONE : 20 + paths.get(0);
    }

    int sign(int x, int y) {
        Cell cell = new Cell(x, y);
        if (!cell.inMap()) {
            return NO_SUCH_ELEMENT;
        }
        Integer room = now.roomCells().get(cell);
        if (room != null) {
            Room r = now.rooms.get(room);
            if (!r.center().equals(cell)) {
                return '.';
            }
            return room == now.entrance ? '>' : r.key < 0 ? 'o' : "012345".charAt(r.key);
        }
        List<Integer> paths = corridorsAt(cell);
        for (int c : paths) {
            if (now.corridors.get(c).lock >= 0) {
                return "abcdef".charAt(now.corridors.get(c).lock);
            }
        }
        return paths.isEmpty() ? '#' : '+';
    }

    int steps(int x, int y, int toX, int toY) {
        Cell from = new Cell(x, y);
        Cell to = new Cell(toX, toY);
        if (!from.inMap() || !to.inMap()) {
            return NO_SUCH_ELEMENT;
        }
        Set<Cell> floor = new HashSet<>(now.roomCells().keySet());
        for (int c = 0; c < now.corridors.size(); c++) {
            floor.addAll(now.cellsOf(c));
        }
        if (!floor.contains(from) || !floor.contains(to)) {
            return BAD_VALUE;
        }
        Set<Cell> reached = new HashSet<>(Set.of(from));
        for (int step = 0; ; step++) {
            if (reached.contains(to)) {
                return step;
            }
            Set<Cell> more = new HashSet<>(reached);
            for (Cell c : reached) {
                more.addAll(List.of(new Cell(c.x + 1, c.y), new Cell(c.x - 1, c.y), new Cell(c.x, c.y + 1),
                        new Cell(c.x, c.y - 1)));
            }
            more.retainAll(floor);
            if (more.equals(reached)) {
                return NONE;
            }
            reached = more;
        }
    }

    int depth(int room) {
        return now.has(room) ? now.depths()[room] : NO_SUCH_ELEMENT;
    }

    int difficulty(int room) {
        return now.has(room) ? now.difficulty(room) : NO_SUCH_ELEMENT;
    }

    int visits() {
        return now.visit().size();
    }

    int visit(int index) {
        List<Integer> order = now.visit();
        return index >= 0 && index < order.size() ? order.get(index) : NO_SUCH_ELEMENT;
    }

    int visitedAt(int room) {
        if (!now.has(room)) {
            return NO_SUCH_ELEMENT;
        }
        int at = now.visit().indexOf(room);
        return at < 0 ? NONE : at;
    }

    int isSolvable() {
        return now.rooms.isEmpty() ? NONE : now.visit().size() == now.rooms.size() ? 1 : 0;
    }

    int keysFound() {
        int bits = 0;
        for (int color : now.colorsIn(now.visit())) {
            bits += 1 << color;
        }
        return bits;
    }

    int needed(int room) {
        if (!now.has(room)) {
            return NO_SUCH_ELEMENT;
        }
        if (!now.visit().contains(room)) {
            return NONE;
        }
        int bits = 0;
        for (int color = 0; color < 6; color++) {
            bits += now.withoutKeys(color).walks().get(room) == null ? 1 << color : 0;
        }
        return bits;
    }

    int missing(int room) {
        if (!now.has(room)) {
            return NO_SUCH_ELEMENT;
        }
        if (now.visit().contains(room)) {
            return NONE;
        }
        int bits = 0;
        for (int color = 0; color < 6; color++) {
            bits += now.withoutLocks(color).visit().contains(room) ? 1 << color : 0;
        }
        return bits;
    }

    int walkLength(int room) {
        if (!now.has(room)) {
            return NO_SUCH_ELEMENT;
        }
        List<Integer> walk = now.walks().get(room);
        return walk == null ? NONE : walk.size() - 1;
    }

    int walkRoom(int room, int step) {
        if (!now.has(room)) {
            return NO_SUCH_ELEMENT;
        }
        List<Integer> walk = now.walks().get(room);
        if (walk == null) {
            return NONE;
        }
        return step < 0 || step >= walk.size() ? BAD_VALUE : walk.get(step);
    }

    int criticalLength() {
        int longest = NONE;
        for (List<Integer> walk : now.walks()) {
            longest = walk == null ? longest : Math.max(longest, walk.size() - 1);
        }
        return longest;
    }

    int tension(int index) {
        List<Integer> order = now.visit();
        if (index < 1 || index >= order.size()) {
            return NO_SUCH_ELEMENT;
        }
        return now.difficulty(order.get(index)) - now.difficulty(order.get(index - 1)) + 1000;
    }

    int drops() {
        int drops = 0;
        for (int i = 1; i < now.visit().size(); i++) {
            drops += tension(i) < 1000 ? 1 : 0;
        }
        return drops;
    }

    int backtracking() {
        int sum = 0;
        List<Integer> order = now.visit();
        for (int i = 1; i < order.size(); i++) {
            sum += now.from(order.get(i - 1)).depths()[order.get(i)];
        }
        return sum;
    }

    long averageBits() {
        if (now.rooms.isEmpty()) {
            return Long.MIN_VALUE;
        }
        int sum = 0;
        for (int r = 0; r < now.rooms.size(); r++) {
            sum += now.difficulty(r);
        }
        return Double.doubleToLongBits((double) sum / (double) now.rooms.size());
    }

    int save() {
        saved = now.copy();
        return now.rooms.size();
    }

    int restore() {
        if (saved == null) {
            return STATE;
        }
        now = saved.copy();
        history.clear();
        return now.rooms.size();
    }
}
