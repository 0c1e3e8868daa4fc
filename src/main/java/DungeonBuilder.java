import java.util.Arrays;

/**
 * A builder of dungeons: rooms from a partition of a map, corridors, loops, locks with keys, texts that describe
 * dungeons, the order in which rooms can be visited, shortest walks with keys, difficulties, maps and statistics.
 *
 * <p>All rows are made with the object and used again, so that no call makes anything. A row that is indexed by rooms or
 * by corridors is as long as there can be rooms or corridors; a number from outside is tested by hasRoom, hasCorridor or
 * cellAt before it becomes an index.
 */
public final class DungeonBuilder {
    public static final int NO_SUCH_ELEMENT = -101;
    public static final int BAD_VALUE = -102;
    public static final int FULL = -103;
    public static final int NONE = -104;
    public static final int STATE = -105;
    public static final int CONFLICT = -106;

    private static final int COLUMNS = 24;
    private static final int ROWS = 16;
    private static final int CELLS = COLUMNS * ROWS;
    private static final int MOST_ROOMS = 12;
    private static final int MOST_CORRIDORS = 20;
    private static final int LEAST_SIDE = 2;
    private static final int MOST_SIDE = 12;
    private static final int COLORS = 6;
    private static final int ALL_COLORS = (1 << COLORS) - 1;
    private static final int MOST_LEVELS = 5;
    private static final int MOST_CURVE = 2;
    private static final int LOST_DIFFICULTY = 500;
    private static final int TENSION_OF_NO_CHANGE = 1000;
    private static final int CORRIDOR_CODE = 20;

    /** Stands for no color, no room, no corridor and no distance. */
    private static final int UNSET = -1;

    private final Dungeon dungeon = new Dungeon();
    private final Dungeon copy = new Dungeon();
    private final History history = new History();
    private final Script script = new Script();
    private final Architect architect = new Architect();
    private final Locksmith locksmith = new Locksmith();
    private final Explorer explorer = new Explorer();
    private final Walks walks = new Walks();
    private final FloorPlan plan = new FloorPlan();
    private boolean saved = false;

    public DungeonBuilder() {
    }

    public int addRoom(int x, int y, int w, int h) {
        history.prepare(dungeon);
        return settled(dungeon.insertRoom(x, y, w, h));
    }

    public int addCorridor(int a, int b) {
        history.prepare(dungeon);
        return settled(dungeon.insertCorridor(a, b));
    }

    public int setLock(int corridor, int color) {
        history.prepare(dungeon);
        return recolored(dungeon.changeLock(corridor, color));
    }

    public int setKey(int room, int color) {
        history.prepare(dungeon);
        return recolored(dungeon.changeKey(room, color));
    }

    public int setEntrance(int room) {
        history.prepare(dungeon);
        return settled(dungeon.moveEntrance(room));
    }

    public int removeRoom(int room) {
        history.prepare(dungeon);
        return settled(dungeon.dropRoom(room));
    }

    public int removeCorridor(int corridor) {
        history.prepare(dungeon);
        return settled(dungeon.dropCorridor(corridor));
    }

    public int build(int seed, int levels) {
        if (levels < 0 || levels > MOST_LEVELS) {
            return BAD_VALUE;
        }
        history.prepare(dungeon);
        architect.raise(dungeon, seed, levels);
        return settled(dungeon.rooms);
    }

    public int addLoop() {
        history.prepare(dungeon);
        return settled(dungeon.insertLoop());
    }

    public int placeLock() {
        history.prepare(dungeon);
        return settled(locksmith.fit(dungeon));
    }

    public int setCurve(int curve) {
        if (curve < 0 || curve > MOST_CURVE) {
            return BAD_VALUE;
        }
        history.prepare(dungeon);
        int previous = dungeon.curve;
        dungeon.curve = curve;
        return settled(previous);
    }

    public int append(int packed) {
        return script.take(packed);
    }

    public int read() {
        if (!script.parse()) {
            return BAD_VALUE;
        }
        history.prepare(dungeon);
        if (!script.execute(dungeon)) {
            history.rollBack(dungeon);
            return STATE;
        }
        return settled(script.commands);
    }

    public int faultPosition() {
        return script.fault;
    }

    public int undo() {
        return history.stepBack(dungeon);
    }

    public int count(int what) {
        switch (what) {
            case 0:
                return dungeon.rooms;
            case 1:
                return dungeon.corridors;
            case 2:
                return dungeon.locks();
            case 3:
                return dungeon.keys();
            case 4:
                return dungeon.roomCells();
            case 5:
                plan.draw(dungeon);
                return plan.corridorCells();
            case 6:
                return dungeon.deadEnds();
            case 7:
                return Reach.groups(dungeon, UNSET);
            case 8:
                return Reach.bridges(dungeon);
            case 9:
                return script.length;
            default:
                return BAD_VALUE;
        }
    }

    public int room(int room, int what) {
        if (!dungeon.hasRoom(room)) {
            return NO_SUCH_ELEMENT;
        }
        switch (what) {
            case 0:
                return dungeon.left[room];
            case 1:
                return dungeon.top[room];
            case 2:
                return dungeon.width[room];
            case 3:
                return dungeon.height[room];
            case 4:
                return colorOrNone(dungeon.key[room]);
            case 5:
                return dungeon.corridorsOf(room);
            case 6:
                return dungeon.centerColumn(room);
            case 7:
                return dungeon.centerRow(room);
            default:
                return BAD_VALUE;
        }
    }

    public int corridor(int corridor, int what) {
        if (!dungeon.hasCorridor(corridor)) {
            return NO_SUCH_ELEMENT;
        }
        switch (what) {
            case 0:
                return dungeon.low[corridor];
            case 1:
                return dungeon.high[corridor];
            case 2:
                return colorOrNone(dungeon.lock[corridor]);
            case 3:
                plan.draw(dungeon);
                return plan.cellsOf(dungeon, corridor);
            default:
                return BAD_VALUE;
        }
    }

    public int between(int a, int b) {
        if (!dungeon.hasRoom(a) || !dungeon.hasRoom(b)) {
            return NO_SUCH_ELEMENT;
        }
        int corridor = dungeon.corridorBetween(a, b);
        return corridor == UNSET ? NONE : corridor;
    }

    public int entrance() {
        return dungeon.rooms == 0 ? NONE : dungeon.start;
    }

    public int cell(int x, int y) {
        int cell = cellAt(x, y);
        if (cell == UNSET) {
            return NO_SUCH_ELEMENT;
        }
        plan.draw(dungeon);
        return plan.contentOf(cell);
    }

    public int sign(int x, int y) {
        int cell = cellAt(x, y);
        if (cell == UNSET) {
            return NO_SUCH_ELEMENT;
        }
        plan.draw(dungeon);
        return plan.signOf(dungeon, cell);
    }

    public int steps(int x, int y, int toX, int toY) {
        int from = cellAt(x, y);
        int to = cellAt(toX, toY);
        if (from == UNSET || to == UNSET) {
            return NO_SUCH_ELEMENT;
        }
        plan.draw(dungeon);
        if (!plan.isFloor(from) || !plan.isFloor(to)) {
            return BAD_VALUE;
        }
        return plan.stepsBetween(from, to);
    }

    public int depth(int room) {
        if (!dungeon.hasRoom(room)) {
            return NO_SUCH_ELEMENT;
        }
        explorer.survey(dungeon);
        return explorer.depths[room];
    }

    public int difficulty(int room) {
        if (!dungeon.hasRoom(room)) {
            return NO_SUCH_ELEMENT;
        }
        explorer.survey(dungeon);
        return explorer.difficulties[room];
    }

    public int visits() {
        explorer.survey(dungeon);
        return explorer.visited;
    }

    public int visit(int index) {
        explorer.survey(dungeon);
        return explorer.hasVisit(index) ? explorer.order[index] : NO_SUCH_ELEMENT;
    }

    public int visitedAt(int room) {
        if (!dungeon.hasRoom(room)) {
            return NO_SUCH_ELEMENT;
        }
        explorer.survey(dungeon);
        return explorer.positionOf(room);
    }

    public int isSolvable() {
        if (dungeon.rooms == 0) {
            return NONE;
        }
        explorer.survey(dungeon);
        return explorer.visited == dungeon.rooms ? 1 : 0;
    }

    public int keysFound() {
        return Reach.keysIn(dungeon, Reach.visitable(dungeon, 0, 0));
    }

    public int needed(int room) {
        if (!dungeon.hasRoom(room)) {
            return NO_SUCH_ELEMENT;
        }
        if (!holds(Reach.visitable(dungeon, 0, 0), room)) {
            return NONE;
        }
        int colors = 0;
        for (int color = 0; color < COLORS; color++) {
            if (!holds(Reach.visitable(dungeon, 1 << color, 0), room)) {
                colors |= 1 << color;
            }
        }
        return colors;
    }

    public int missing(int room) {
        if (!dungeon.hasRoom(room)) {
            return NO_SUCH_ELEMENT;
        }
        if (holds(Reach.visitable(dungeon, 0, 0), room)) {
            return NONE;
        }
        int colors = 0;
        for (int color = 0; color < COLORS; color++) {
            if (holds(Reach.visitable(dungeon, 0, 1 << color), room)) {
                colors |= 1 << color;
            }
        }
        return colors;
    }

    public int walkLength(int room) {
        if (!dungeon.hasRoom(room)) {
            return NO_SUCH_ELEMENT;
        }
        walks.explore(dungeon);
        int length = walks.lengthTo(room);
        return length == UNSET ? NONE : length;
    }

    public int walkRoom(int room, int step) {
        if (!dungeon.hasRoom(room)) {
            return NO_SUCH_ELEMENT;
        }
        walks.explore(dungeon);
        int length = walks.lengthTo(room);
        if (length == UNSET) {
            return NONE;
        }
        return step < 0 || step > length ? BAD_VALUE : walks.roomOnWay(room, step);
    }

    public int criticalLength() {
        if (dungeon.rooms == 0) {
            return NONE;
        }
        walks.explore(dungeon);
        int longest = 0;
        for (int room = 0; room < dungeon.rooms; room++) {
            longest = Math.max(longest, walks.lengthTo(room));
        }
        return longest;
    }

    public int tension(int index) {
        explorer.survey(dungeon);
        if (index < 1 || !explorer.hasVisit(index)) {
            return NO_SUCH_ELEMENT;
        }
        return explorer.rise(index) + TENSION_OF_NO_CHANGE;
    }

    public int drops() {
        explorer.survey(dungeon);
        int falls = 0;
        for (int i = 1; i < explorer.visited; i++) {
            if (explorer.rise(i) < 0) {
                falls++;
            }
        }
        return falls;
    }

    public int backtracking() {
        explorer.survey(dungeon);
        return explorer.wayBack(dungeon);
    }

    public long averageBits() {
        if (dungeon.rooms == 0) {
            return Long.MIN_VALUE;
        }
        explorer.survey(dungeon);
        int sum = 0;
        for (int room = 0; room < dungeon.rooms; room++) {
            sum += explorer.difficulties[room];
        }
        return bitsOf((double) sum / (double) dungeon.rooms);
    }

    public int save() {
        copy.become(dungeon);
        saved = true;
        return dungeon.rooms;
    }

    public int restore() {
        if (!saved) {
            return STATE;
        }
        dungeon.become(copy);
        history.forget();
        return dungeon.rooms;
    }

    private int settled(int answer) {
        if (answer >= 0) {
            history.commit();
        }
        return answer;
    }

    /** Of a previous color, NONE is no error code: the call was a change. */
    private int recolored(int answer) {
        if (answer >= 0 || answer == NONE) {
            history.commit();
        }
        return answer;
    }

    private static int colorOrNone(int color) {
        return color == UNSET ? NONE : color;
    }

    private static boolean isColorOrUnset(int color) {
        return color >= UNSET && color < COLORS;
    }

    private static boolean holds(int set, int element) {
        return (set >> element & 1) != 0;
    }

    private static int cellAt(int x, int y) {
        if (x < 0 || x >= COLUMNS || y < 0 || y >= ROWS) {
            return UNSET;
        }
        return y * COLUMNS + x;
    }

    /**
     * The library's own function is not at hand; halving loses nothing, so the bits are exact. An average is 0, that of
     * the entrance alone by curve 0, or at least 1: by curve 2, at most 20 corridors need so many rooms that these
     * outweigh what the corridors take away.
     */
    private static long bitsOf(double average) {
        if (average < 1.0) {
            return 0L;
        }
        double rest = average;
        long exponent = 1023L;
        for (int i = 0; i < 1023 && rest >= 2.0; i++) {
            rest = rest / 2.0;
            exponent++;
        }
        return exponent << 52 | (long) ((rest - 1.0) * 4503599627370496.0);
    }

    /**
     * Rooms, corridors, locks, keys, the entrance and the curve. A call that answers an error code has changed nothing.
     * Without rooms the entrance is 0, so that the first room becomes it.
     */
    private static final class Dungeon {
        final int[] left = new int[MOST_ROOMS];
        final int[] top = new int[MOST_ROOMS];
        final int[] width = new int[MOST_ROOMS];
        final int[] height = new int[MOST_ROOMS];
        final int[] key = new int[MOST_ROOMS];
        final int[] low = new int[MOST_CORRIDORS];
        final int[] high = new int[MOST_CORRIDORS];
        final int[] lock = new int[MOST_CORRIDORS];
        int rooms = 0;
        int corridors = 0;
        int start = 0;
        int curve = 0;

        void become(Dungeon other) {
            for (int room = 0; room < other.rooms; room++) {
                takeRoom(room, other, room);
            }
            for (int c = 0; c < other.corridors; c++) {
                takeCorridor(c, other, c);
            }
            rooms = other.rooms;
            corridors = other.corridors;
            start = other.start;
            curve = other.curve;
        }

        private void takeRoom(int room, Dungeon other, int from) {
            left[room] = other.left[from];
            top[room] = other.top[from];
            width[room] = other.width[from];
            height[room] = other.height[from];
            key[room] = other.key[from];
        }

        private void takeCorridor(int corridor, Dungeon other, int from) {
            low[corridor] = other.low[from];
            high[corridor] = other.high[from];
            lock[corridor] = other.lock[from];
        }

        /** The curve stays: building does not change it. */
        void clear() {
            rooms = 0;
            corridors = 0;
            start = 0;
        }

        boolean hasRoom(int room) {
            return room >= 0 && room < rooms;
        }

        boolean hasCorridor(int corridor) {
            return corridor >= 0 && corridor < corridors;
        }

        int insertRoom(int x, int y, int w, int h) {
            if (!liesInMap(x, y, w, h)) {
                return BAD_VALUE;
            }
            if (meetsRoom(x, y, w, h)) {
                return CONFLICT;
            }
            if (rooms >= MOST_ROOMS) {
                return FULL;
            }
            left[rooms] = x;
            top[rooms] = y;
            width[rooms] = w;
            height[rooms] = h;
            key[rooms] = UNSET;
            rooms++;
            return rooms - 1;
        }

        private static boolean liesInMap(int x, int y, int w, int h) {
            boolean sides = w >= LEAST_SIDE && w <= MOST_SIDE && h >= LEAST_SIDE && h <= MOST_SIDE;
            return sides && x >= 0 && x <= COLUMNS - w && y >= 0 && y <= ROWS - h;
        }

        private boolean meetsRoom(int x, int y, int w, int h) {
            for (int room = 0; room < rooms; room++) {
                boolean columns = x < left[room] + width[room] && left[room] < x + w;
                boolean lines = y < top[room] + height[room] && top[room] < y + h;
                if (columns && lines) {
                    return true;
                }
            }
            return false;
        }

        int insertCorridor(int a, int b) {
            if (!hasRoom(a) || !hasRoom(b)) {
                return NO_SUCH_ELEMENT;
            }
            if (a == b) {
                return BAD_VALUE;
            }
            if (corridorBetween(a, b) != UNSET) {
                return CONFLICT;
            }
            if (corridors >= MOST_CORRIDORS) {
                return FULL;
            }
            low[corridors] = Math.min(a, b);
            high[corridors] = Math.max(a, b);
            lock[corridors] = UNSET;
            corridors++;
            return corridors - 1;
        }

        int insertLoop() {
            int bestA = UNSET;
            int bestB = UNSET;
            int least = COLUMNS + ROWS;
            for (int a = 0; a < rooms; a++) {
                for (int b = a + 1; b < rooms; b++) {
                    if (distance(a, b) < least && corridorBetween(a, b) == UNSET) {
                        bestA = a;
                        bestB = b;
                        least = distance(a, b);
                    }
                }
            }
            return bestA == UNSET ? NONE : insertCorridor(bestA, bestB);
        }

        int changeLock(int corridor, int color) {
            if (!hasCorridor(corridor)) {
                return NO_SUCH_ELEMENT;
            }
            if (!isColorOrUnset(color)) {
                return BAD_VALUE;
            }
            int previous = lock[corridor];
            lock[corridor] = color;
            return colorOrNone(previous);
        }

        int changeKey(int room, int color) {
            if (!hasRoom(room)) {
                return NO_SUCH_ELEMENT;
            }
            if (!isColorOrUnset(color)) {
                return BAD_VALUE;
            }
            int previous = key[room];
            key[room] = color;
            return colorOrNone(previous);
        }

        int moveEntrance(int room) {
            if (!hasRoom(room)) {
                return NO_SUCH_ELEMENT;
            }
            int previous = start;
            start = room;
            return previous;
        }

        int dropRoom(int room) {
            if (!hasRoom(room)) {
                return NO_SUCH_ELEMENT;
            }
            dropCorridorsOf(room);
            for (int next = room + 1; next < rooms; next++) {
                takeRoom(next - 1, this, next);
            }
            rooms--;
            for (int c = 0; c < corridors; c++) {
                low[c] = renumbered(low[c], room);
                high[c] = renumbered(high[c], room);
            }
            start = start == room ? 0 : renumbered(start, room);
            return rooms;
        }

        private void dropCorridorsOf(int room) {
            int kept = 0;
            for (int c = 0; c < corridors; c++) {
                if (!ends(c, room)) {
                    takeCorridor(kept, this, c);
                    kept++;
                }
            }
            corridors = kept;
        }

        private static int renumbered(int room, int removed) {
            return room > removed ? room - 1 : room;
        }

        int dropCorridor(int corridor) {
            if (!hasCorridor(corridor)) {
                return NO_SUCH_ELEMENT;
            }
            for (int next = corridor + 1; next < corridors; next++) {
                takeCorridor(next - 1, this, next);
            }
            corridors--;
            return corridors;
        }

        boolean ends(int corridor, int room) {
            return low[corridor] == room || high[corridor] == room;
        }

        int corridorBetween(int a, int b) {
            for (int c = 0; c < corridors; c++) {
                if (a != b && ends(c, a) && ends(c, b)) {
                    return c;
                }
            }
            return UNSET;
        }

        int corridorsOf(int room) {
            int number = 0;
            for (int c = 0; c < corridors; c++) {
                if (ends(c, room)) {
                    number++;
                }
            }
            return number;
        }

        int centerColumn(int room) {
            return left[room] + width[room] / 2;
        }

        int centerRow(int room) {
            return top[room] + height[room] / 2;
        }

        int distance(int a, int b) {
            return Math.abs(centerColumn(a) - centerColumn(b)) + Math.abs(centerRow(a) - centerRow(b));
        }

        boolean opens(int corridor, int keys) {
            return lock[corridor] == UNSET || holds(keys, lock[corridor]);
        }

        int keyBit(int room) {
            return key[room] == UNSET ? 0 : 1 << key[room];
        }

        int locks() {
            int number = 0;
            for (int c = 0; c < corridors; c++) {
                if (lock[c] != UNSET) {
                    number++;
                }
            }
            return number;
        }

        int keys() {
            int number = 0;
            for (int room = 0; room < rooms; room++) {
                if (key[room] != UNSET) {
                    number++;
                }
            }
            return number;
        }

        int cellsOf(int room) {
            return width[room] * height[room];
        }

        int roomCells() {
            int number = 0;
            for (int room = 0; room < rooms; room++) {
                number += cellsOf(room);
            }
            return number;
        }

        int deadEnds() {
            int number = 0;
            for (int room = 0; room < rooms; room++) {
                if (corridorsOf(room) == 1) {
                    number++;
                }
            }
            return number;
        }
    }

    /** The states before the latest changes. */
    private static final class History {
        private static final int MOST_CHANGES = 6;

        /** One more than there are changes, so that a change that is refused overwrites none of them. */
        private static final int SLOTS = MOST_CHANGES + 1;

        private final Dungeon[] before = new Dungeon[SLOTS];
        private int next = 0;
        private int changes = 0;

        History() {
            for (int i = 0; i < SLOTS; i++) {
                before[i] = new Dungeon();
            }
        }

        void prepare(Dungeon dungeon) {
            before[next].become(dungeon);
        }

        void commit() {
            next = (next + 1) % SLOTS;
            changes = Math.min(changes + 1, MOST_CHANGES);
        }

        void rollBack(Dungeon dungeon) {
            dungeon.become(before[next]);
        }

        int stepBack(Dungeon dungeon) {
            if (changes == 0) {
                return NONE;
            }
            changes--;
            next = (next + SLOTS - 1) % SLOTS;
            dungeon.become(before[next]);
            return changes;
        }

        void forget() {
            changes = 0;
        }
    }

    /** The text, the commands in it, and where it had a fault. */
    private static final class Script {
        private static final int MOST_SIGNS = 60;

        /** The shortest command and its ";" are three signs. */
        private static final int MOST_COMMANDS = 20;
        private static final int MOST_NUMBERS = 4;
        private static final int FIRST_SIGN = 33;
        private static final int LAST_SIGN = 126;

        private final int[] signs = new int[MOST_SIGNS];
        private final int[] kinds = new int[MOST_COMMANDS];
        private final int[] starts = new int[MOST_COMMANDS];
        private final int[][] numbers = new int[MOST_COMMANDS][MOST_NUMBERS];
        private int position = 0;
        int length = 0;
        int commands = 0;
        int fault = NONE;

        int take(int packed) {
            int more = 0;
            for (int shift = 24; shift >= 0; shift -= 8) {
                int sign = packed >>> shift & 255;
                if (sign != 0 && (sign < FIRST_SIGN || sign > LAST_SIGN)) {
                    return BAD_VALUE;
                }
                more += sign == 0 ? 0 : 1;
            }
            if (length + more > MOST_SIGNS) {
                return FULL;
            }
            for (int shift = 24; shift >= 0; shift -= 8) {
                put(packed >>> shift & 255);
            }
            return length;
        }

        private void put(int sign) {
            if (sign != 0 && length < MOST_SIGNS) {
                signs[length] = sign;
                length++;
            }
        }

        /** Takes the commands out of the text, which is empty afterwards; answers whether it had no fault. */
        boolean parse() {
            boolean sound = parseCommands();
            fault = sound ? NONE : position;
            length = 0;
            return sound;
        }

        private boolean parseCommands() {
            position = 0;
            for (int i = 0; i < MOST_COMMANDS; i++) {
                if (i > 0 && !skip(';')) {
                    return false;
                }
                if (!parseCommand(i)) {
                    return false;
                }
                if (position == length) {
                    commands = i + 1;
                    return true;
                }
            }
            // As many commands as fit leave room for one ";" more, which is where the text ends too early.
            skip(';');
            return false;
        }

        private boolean parseCommand(int command) {
            int kind = signAt(position);
            int wanted = numbersOf(kind);
            if (wanted == 0) {
                return false;
            }
            kinds[command] = kind;
            starts[command] = position;
            position++;
            for (int i = 0; i < wanted; i++) {
                if (i > 0 && !skip(',')) {
                    return false;
                }
                if (!isDigit(signAt(position))) {
                    return false;
                }
                numbers[command][i] = parseNumber();
            }
            return true;
        }

        private static int numbersOf(int kind) {
            switch (kind) {
                case 'r':
                    return MOST_NUMBERS;
                case 'c':
                case 'l':
                case 'k':
                    return 2;
                case 'e':
                    return 1;
                default:
                    return 0;
            }
        }

        private int parseNumber() {
            int number = signAt(position) - '0';
            position++;
            if (isDigit(signAt(position))) {
                number = 10 * number + signAt(position) - '0';
                position++;
            }
            return number;
        }

        private boolean skip(int sign) {
            if (signAt(position) != sign) {
                return false;
            }
            position++;
            return true;
        }

        private int signAt(int index) {
            return index >= 0 && index < length ? signs[index] : 0;
        }

        private static boolean isDigit(int sign) {
            return sign >= '0' && sign <= '9';
        }

        /** Answers whether no command was refused; the ones before a refused one have been executed. */
        boolean execute(Dungeon dungeon) {
            for (int i = 0; i < commands; i++) {
                int answer = executeOne(dungeon, kinds[i], numbers[i]);
                if (answer < 0 && answer != NONE) {
                    fault = starts[i];
                    return false;
                }
            }
            return true;
        }

        /** NONE can only be a previous color here, which is no error code. */
        private static int executeOne(Dungeon dungeon, int kind, int[] given) {
            switch (kind) {
                case 'r':
                    return dungeon.insertRoom(given[0], given[1], given[2], given[3]);
                case 'c':
                    return dungeon.insertCorridor(given[0], given[1]);
                case 'l':
                    return dungeon.changeLock(given[0], given[1]);
                case 'k':
                    return dungeon.changeKey(given[0], given[1]);
                default:
                    return dungeon.moveEntrance(given[0]);
            }
        }
    }

    /** Builds dungeons from a seed. */
    private static final class Architect {
        private static final int LEAST_TO_CUT = 10;
        private static final int LEAST_PART = 5;
        private static final int LEAST_ROOM = 3;

        /** Parts have sides of at least 5, so no more than 4 times 3 of them are left uncut. */
        private static final int MOST_PARTS = 2 * MOST_ROOMS - 1;

        private final int[] left = new int[MOST_PARTS];
        private final int[] top = new int[MOST_PARTS];
        private final int[] width = new int[MOST_PARTS];
        private final int[] height = new int[MOST_PARTS];
        private final int[] firstRoom = new int[MOST_PARTS];
        private final int[] endRoom = new int[MOST_PARTS];
        private final int[] uncut = new int[MOST_ROOMS];
        private final int[] cutFirst = new int[MOST_ROOMS];
        private int parts = 0;
        private int uncutParts = 0;
        private int cutParts = 0;
        private int random = 0;

        void raise(Dungeon dungeon, int seed, int levels) {
            random = seed;
            parts = 0;
            uncutParts = 0;
            cutParts = 0;
            dungeon.clear();
            partition(this, addPart(0, 0, COLUMNS, ROWS), levels);
            for (int i = 0; i < uncutParts; i++) {
                drawRoom(dungeon, uncut[i]);
            }
            for (int i = 0; i < cutParts; i++) {
                join(dungeon, cutFirst[i], cutFirst[i] + 1);
            }
        }

        private int draw(int n) {
            random = random * 1103515245 + 12345;
            return n <= 0 ? 0 : (random >>> 16 & 32767) % n;
        }

        private int addPart(int x, int y, int w, int h) {
            if (parts >= MOST_PARTS) {
                return UNSET;
            }
            left[parts] = x;
            top[parts] = y;
            width[parts] = w;
            height[parts] = h;
            parts++;
            return parts - 1;
        }

        /** Cut parts are noted after the parts in them, as corridors are added; the levels left end the recursion. */
        private static void partition(Architect plan, int part, int levelsLeft) {
            if (part < 0 || part >= MOST_PARTS) {
                return;
            }
            plan.firstRoom[part] = plan.uncutParts;
            int first = levelsLeft > 0 ? plan.cut(part) : UNSET;
            if (first == UNSET) {
                plan.noteUncut(part);
            } else {
                partition(plan, first, levelsLeft - 1);
                partition(plan, first + 1, levelsLeft - 1);
                plan.noteCut(first);
            }
            plan.endRoom[part] = plan.uncutParts;
        }

        private void noteUncut(int part) {
            if (uncutParts < MOST_ROOMS) {
                uncut[uncutParts] = part;
                uncutParts++;
            }
        }

        private void noteCut(int first) {
            if (cutParts < MOST_ROOMS) {
                cutFirst[cutParts] = first;
                cutParts++;
            }
        }

        /** Answers the first of the two new parts, which the second one follows, or UNSET if the part is too small. */
        private int cut(int part) {
            int x = left[part];
            int y = top[part];
            int w = width[part];
            int h = height[part];
            if (w < LEAST_TO_CUT && h < LEAST_TO_CUT || parts + 2 > MOST_PARTS) {
                return UNSET;
            }
            boolean both = w >= LEAST_TO_CUT && h >= LEAST_TO_CUT;
            boolean beside = both ? draw(2) == 0 : w >= LEAST_TO_CUT;
            int size = LEAST_PART + draw((beside ? w : h) - LEAST_TO_CUT + 1);
            int first = beside ? addPart(x, y, size, h) : addPart(x, y, w, size);
            if (beside) {
                addPart(x + size, y, w - size, h);
            } else {
                addPart(x, y + size, w, h - size);
            }
            return first;
        }

        private void drawRoom(Dungeon dungeon, int part) {
            int w = Math.min(MOST_SIDE, LEAST_ROOM + draw(width[part] - 4));
            int h = Math.min(MOST_SIDE, LEAST_ROOM + draw(height[part] - 4));
            int x = left[part] + 1 + draw(width[part] - w - 1);
            int y = top[part] + 1 + draw(height[part] - h - 1);
            dungeon.insertRoom(x, y, w, h);
        }

        private void join(Dungeon dungeon, int first, int second) {
            int bestA = UNSET;
            int bestB = UNSET;
            int least = COLUMNS + ROWS;
            for (int a = firstRoom[first]; a < endRoom[first]; a++) {
                for (int b = firstRoom[second]; b < endRoom[second]; b++) {
                    if (dungeon.distance(a, b) < least) {
                        bestA = a;
                        bestB = b;
                        least = dungeon.distance(a, b);
                    }
                }
            }
            dungeon.insertCorridor(bestA, bestB);
        }
    }

    /** Which rooms can be reached. Sets of rooms and of colors are bits. */
    private static final class Reach {
        /** A color whose locks are gone is as good as one whose key is held. */
        static int spread(Dungeon dungeon, int from, int keysGone, int locksGone, int corridorGone) {
            int reached = from;
            for (int round = 1; round < dungeon.rooms; round++) {
                int keys = keysIn(dungeon, reached) & ~keysGone | locksGone;
                for (int c = 0; c < dungeon.corridors; c++) {
                    int ends = 1 << dungeon.low[c] | 1 << dungeon.high[c];
                    if (c != corridorGone && (ends & reached) != 0 && dungeon.opens(c, keys)) {
                        reached |= ends;
                    }
                }
            }
            return reached;
        }

        static int visitable(Dungeon dungeon, int keysGone, int locksGone) {
            return spread(dungeon, entranceSet(dungeon), keysGone, locksGone, UNSET);
        }

        static int entranceSet(Dungeon dungeon) {
            return dungeon.rooms == 0 ? 0 : 1 << dungeon.start;
        }

        static int keysIn(Dungeon dungeon, int set) {
            int keys = 0;
            for (int room = 0; room < dungeon.rooms; room++) {
                if (holds(set, room)) {
                    keys |= dungeon.keyBit(room);
                }
            }
            return keys;
        }

        static int farSide(Dungeon dungeon, int corridor) {
            int from = entranceSet(dungeon);
            int all = spread(dungeon, from, 0, ALL_COLORS, UNSET);
            return all & ~spread(dungeon, from, 0, ALL_COLORS, corridor);
        }

        static int groups(Dungeon dungeon, int corridorGone) {
            int number = 0;
            int seen = 0;
            for (int room = 0; room < dungeon.rooms; room++) {
                if (!holds(seen, room)) {
                    seen |= spread(dungeon, 1 << room, 0, ALL_COLORS, corridorGone);
                    number++;
                }
            }
            return number;
        }

        static int bridges(Dungeon dungeon) {
            int all = groups(dungeon, UNSET);
            int number = 0;
            for (int c = 0; c < dungeon.corridors; c++) {
                if (groups(dungeon, c) > all) {
                    number++;
                }
            }
            return number;
        }

        /** Fills the row with the least numbers of corridors from a room, where locks do not matter. */
        static void measure(Dungeon dungeon, int from, int[] row) {
            Arrays.fill(row, UNSET);
            if (!dungeon.hasRoom(from)) {
                return;
            }
            row[from] = 0;
            for (int far = 0; far < dungeon.rooms; far++) {
                for (int c = 0; c < dungeon.corridors; c++) {
                    extend(row, dungeon.low[c], dungeon.high[c], far);
                    extend(row, dungeon.high[c], dungeon.low[c], far);
                }
            }
        }

        private static void extend(int[] row, int from, int to, int far) {
            if (row[from] == far && row[to] == UNSET) {
                row[to] = far + 1;
            }
        }
    }

    /** Places locks. */
    private static final class Locksmith {
        private final int[] depths = new int[MOST_ROOMS];

        int fit(Dungeon dungeon) {
            int corridor = bestCorridor(dungeon);
            if (corridor == UNSET) {
                return NONE;
            }
            int color = freeColor(dungeon);
            if (color == UNSET) {
                return FULL;
            }
            int room = bestRoom(dungeon, corridor);
            if (room == UNSET) {
                return STATE;
            }
            dungeon.lock[corridor] = color;
            dungeon.key[room] = color;
            return corridor;
        }

        private static int bestCorridor(Dungeon dungeon) {
            int best = UNSET;
            int least = 0;
            for (int c = 0; c < dungeon.corridors; c++) {
                int far = Integer.bitCount(Reach.farSide(dungeon, c));
                int unevenness = Math.abs(2 * far - dungeon.rooms);
                if (dungeon.lock[c] == UNSET && far > 0 && (best == UNSET || unevenness < least)) {
                    best = c;
                    least = unevenness;
                }
            }
            return best;
        }

        private static int freeColor(Dungeon dungeon) {
            int used = 0;
            for (int room = 0; room < dungeon.rooms; room++) {
                used |= dungeon.keyBit(room);
            }
            for (int c = 0; c < dungeon.corridors; c++) {
                used |= dungeon.lock[c] == UNSET ? 0 : 1 << dungeon.lock[c];
            }
            for (int color = 0; color < COLORS; color++) {
                if (!holds(used, color)) {
                    return color;
                }
            }
            return UNSET;
        }

        private int bestRoom(Dungeon dungeon, int corridor) {
            int reached = Reach.spread(dungeon, Reach.entranceSet(dungeon), 0, 0, corridor);
            Reach.measure(dungeon, dungeon.start, depths);
            int best = UNSET;
            for (int room = 0; room < dungeon.rooms; room++) {
                boolean fits = holds(reached, room) && dungeon.key[room] == UNSET;
                if (fits && (best == UNSET || depths[room] > depths[best])) {
                    best = room;
                }
            }
            return best;
        }
    }

    /** Depths, difficulties and the order of the visit, as of the latest survey. */
    private static final class Explorer {
        final int[] depths = new int[MOST_ROOMS];
        final int[] difficulties = new int[MOST_ROOMS];
        final int[] order = new int[MOST_ROOMS];
        private final int[] distances = new int[MOST_ROOMS];
        int visited = 0;

        void survey(Dungeon dungeon) {
            Reach.measure(dungeon, dungeon.start, depths);
            for (int room = 0; room < dungeon.rooms; room++) {
                difficulties[room] = rate(dungeon, room, depths[room]);
            }
            visited = 0;
            int seen = 0;
            int next = dungeon.rooms == 0 ? UNSET : dungeon.start;
            for (int i = 0; i < dungeon.rooms && next != UNSET; i++) {
                order[i] = next;
                visited++;
                seen |= 1 << next;
                next = easiest(dungeon, seen);
            }
        }

        private static int rate(Dungeon dungeon, int room, int depth) {
            if (depth == UNSET) {
                return LOST_DIFFICULTY;
            }
            switch (dungeon.curve) {
                case 0:
                    return 10 * depth;
                case 1:
                    return depth * depth + dungeon.cellsOf(room) / 4;
                default:
                    return 100 - 10 * dungeon.corridorsOf(room) + depth;
            }
        }

        private int easiest(Dungeon dungeon, int seen) {
            int near = bordering(dungeon, seen);
            int best = UNSET;
            for (int room = 0; room < dungeon.rooms; room++) {
                if (holds(near, room) && (best == UNSET || difficulties[room] < difficulties[best])) {
                    best = room;
                }
            }
            return best;
        }

        private static int bordering(Dungeon dungeon, int seen) {
            int keys = Reach.keysIn(dungeon, seen);
            int near = 0;
            for (int c = 0; c < dungeon.corridors; c++) {
                int ends = 1 << dungeon.low[c] | 1 << dungeon.high[c];
                if ((ends & seen) != 0 && dungeon.opens(c, keys)) {
                    near |= ends;
                }
            }
            return near & ~seen;
        }

        boolean hasVisit(int index) {
            return index >= 0 && index < visited;
        }

        int positionOf(int room) {
            for (int i = 0; i < visited; i++) {
                if (order[i] == room) {
                    return i;
                }
            }
            return NONE;
        }

        int rise(int index) {
            return difficulties[order[index]] - difficulties[order[index - 1]];
        }

        int wayBack(Dungeon dungeon) {
            int sum = 0;
            for (int i = 1; i < visited; i++) {
                Reach.measure(dungeon, order[i - 1], distances);
                sum += distances[order[i]];
            }
            return sum;
        }
    }

    /**
     * Shortest walks, found in breadth over what differs: the present room and the keys that are held. The lines are
     * made in the order of their lengths, those of one length in the lexicographic order of their rooms, because every
     * line is continued by the lower rooms first. So the first line that ends in a room is its walk.
     */
    private static final class Walks {
        private static final int KEY_SETS = 1 << COLORS;
        private static final int MOST_LINES = MOST_ROOMS * KEY_SETS;

        private final int[] rooms = new int[MOST_LINES];
        private final int[] keys = new int[MOST_LINES];
        private final int[] origins = new int[MOST_LINES];
        private final int[] lengths = new int[MOST_LINES];
        private final int[] met = new int[MOST_LINES];
        private final int[] firstLines = new int[MOST_ROOMS];
        private int lines = 0;

        void explore(Dungeon dungeon) {
            Arrays.fill(met, 0);
            Arrays.fill(firstLines, UNSET);
            lines = 0;
            if (dungeon.rooms == 0) {
                return;
            }
            addLine(dungeon, dungeon.start, UNSET);
            for (int line = 0; line < MOST_LINES && line < lines; line++) {
                goOn(dungeon, line);
            }
        }

        private void goOn(Dungeon dungeon, int line) {
            for (int room = 0; room < dungeon.rooms; room++) {
                int corridor = dungeon.corridorBetween(rooms[line], room);
                if (corridor != UNSET && dungeon.opens(corridor, keys[line])) {
                    addLine(dungeon, room, line);
                }
            }
        }

        private void addLine(Dungeon dungeon, int room, int origin) {
            int held = dungeon.keyBit(room) | (origin == UNSET ? 0 : keys[origin]);
            int state = room * KEY_SETS + held;
            if (met[state] != 0 || lines >= MOST_LINES) {
                return;
            }
            met[state] = 1;
            rooms[lines] = room;
            keys[lines] = held;
            origins[lines] = origin;
            lengths[lines] = origin == UNSET ? 0 : lengths[origin] + 1;
            if (firstLines[room] == UNSET) {
                firstLines[room] = lines;
            }
            lines++;
        }

        int lengthTo(int room) {
            return firstLines[room] == UNSET ? UNSET : lengths[firstLines[room]];
        }

        int roomOnWay(int room, int step) {
            int line = firstLines[room];
            for (int i = lengthTo(room); i > step && line != UNSET; i--) {
                line = origins[line];
            }
            return line == UNSET ? NONE : rooms[line];
        }
    }

    /** What lies on the cells of the map, as of the latest drawing. */
    private static final class FloorPlan {
        private final int[] roomOf = new int[CELLS];
        private final int[] corridorOf = new int[CELLS];
        private final int[] lockOf = new int[CELLS];
        private final int[] distances = new int[CELLS];
        private final int[] queue = new int[CELLS];
        private int queued = 0;

        /** The corridors are drawn from the last one, so that the lowest one and the lowest lock stay on a cell. */
        void draw(Dungeon dungeon) {
            Arrays.fill(roomOf, UNSET);
            Arrays.fill(corridorOf, UNSET);
            Arrays.fill(lockOf, UNSET);
            for (int room = 0; room < dungeon.rooms; room++) {
                drawRoom(dungeon, room);
            }
            for (int c = dungeon.corridors - 1; c >= 0; c--) {
                drawCorridor(dungeon, c);
            }
        }

        private void drawRoom(Dungeon dungeon, int room) {
            for (int y = 0; y < dungeon.height[room]; y++) {
                for (int x = 0; x < dungeon.width[room]; x++) {
                    int cell = cellAt(dungeon.left[room] + x, dungeon.top[room] + y);
                    if (cell != UNSET) {
                        roomOf[cell] = room;
                    }
                }
            }
        }

        private void drawCorridor(Dungeon dungeon, int corridor) {
            int last = dungeon.distance(dungeon.low[corridor], dungeon.high[corridor]);
            for (int i = 0; i <= last; i++) {
                int cell = wayCell(dungeon, corridor, i);
                if (cell != UNSET && roomOf[cell] == UNSET) {
                    corridorOf[cell] = corridor;
                    lockOf[cell] = dungeon.lock[corridor] == UNSET ? lockOf[cell] : dungeon.lock[corridor];
                }
            }
        }

        /** A corridor with an even number goes along the row first, one with an odd number along the column. */
        private static int wayCell(Dungeon dungeon, int corridor, int index) {
            int x = dungeon.centerColumn(dungeon.low[corridor]);
            int y = dungeon.centerRow(dungeon.low[corridor]);
            int dx = dungeon.centerColumn(dungeon.high[corridor]) - x;
            int dy = dungeon.centerRow(dungeon.high[corridor]) - y;
            boolean rowFirst = corridor % 2 == 0;
            int across = rowFirst ? Math.min(index, Math.abs(dx)) : Math.max(0, index - Math.abs(dy));
            return cellAt(x + Integer.signum(dx) * across, y + Integer.signum(dy) * (index - across));
        }

        int cellsOf(Dungeon dungeon, int corridor) {
            int number = 0;
            int last = dungeon.distance(dungeon.low[corridor], dungeon.high[corridor]);
            for (int i = 0; i <= last; i++) {
                int cell = wayCell(dungeon, corridor, i);
                if (cell != UNSET && roomOf[cell] == UNSET) {
                    number++;
                }
            }
            return number;
        }

        int corridorCells() {
            int number = 0;
            for (int cell = 0; cell < CELLS; cell++) {
                if (corridorOf[cell] != UNSET) {
                    number++;
                }
            }
            return number;
        }

        boolean isFloor(int cell) {
            return roomOf[cell] != UNSET || corridorOf[cell] != UNSET;
        }

        int contentOf(int cell) {
            if (roomOf[cell] != UNSET) {
                return roomOf[cell];
            }
            return corridorOf[cell] == UNSET ? NONE : CORRIDOR_CODE + corridorOf[cell];
        }

        int signOf(Dungeon dungeon, int cell) {
            if (roomOf[cell] != UNSET) {
                return signInRoom(dungeon, roomOf[cell], cell);
            }
            if (corridorOf[cell] == UNSET) {
                return '#';
            }
            return lockOf[cell] == UNSET ? '+' : 'a' + lockOf[cell];
        }

        private static int signInRoom(Dungeon dungeon, int room, int cell) {
            if (cell != cellAt(dungeon.centerColumn(room), dungeon.centerRow(room))) {
                return '.';
            }
            if (room == dungeon.start) {
                return '>';
            }
            return dungeon.key[room] == UNSET ? 'o' : '0' + dungeon.key[room];
        }

        int stepsBetween(int from, int to) {
            Arrays.fill(distances, UNSET);
            queued = 0;
            enter(from, 0);
            for (int i = 0; i < CELLS && i < queued; i++) {
                int x = queue[i] % COLUMNS;
                int y = queue[i] / COLUMNS;
                int far = distances[queue[i]] + 1;
                enter(cellAt(x - 1, y), far);
                enter(cellAt(x + 1, y), far);
                enter(cellAt(x, y - 1), far);
                enter(cellAt(x, y + 1), far);
            }
            return distances[to] == UNSET ? NONE : distances[to];
        }

        private void enter(int cell, int far) {
            if (cell != UNSET && queued < CELLS && isFloor(cell) && distances[cell] == UNSET) {
                distances[cell] = far;
                queue[queued] = cell;
                queued++;
            }
        }
    }
}
