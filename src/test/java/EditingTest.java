/** Promises 1 to 8, 10, 11 and 12: what is changed by hand, loops, locks that are placed, the curve. */
public final class EditingTest {
    private static final int NO_SUCH_ELEMENT = -101;
    private static final int BAD_VALUE = -102;
    private static final int FULL = -103;
    private static final int NONE = -104;
    private static final int STATE = -105;
    private static final int CONFLICT = -106;

    public static void main(String[] args) {
        promise1ANewObject();
        promise2AddRoom();
        promise2OrderOfErrors();
        promise3AddCorridor();
        promise3OrderOfErrors();
        promise4SetLock();
        promise5SetKey();
        promise6SetEntrance();
        promise7RemoveRoom();
        promise7TheEntrance();
        promise8RemoveCorridor();
        promise10AddLoop();
        promise10OrderOfErrors();
        promise11PlaceLock();
        promise11TheRoomOfTheKey();
        promise11Colors();
        promise11OrderOfErrors();
        promise12SetCurve();
        whereAllIsFull();
        Check.end();
    }

    /** Rooms of 2 by 2, six in a row, with the centers (4 i + 1, 8 j + 1). */
    static DungeonBuilder grid(int rooms) {
        DungeonBuilder d = new DungeonBuilder();
        for (int i = 0; i < rooms; i++) {
            Check.due("addRoom for the grid", d.addRoom(i % 6 * 4, i / 6 * 8, 2, 2), i);
        }
        return d;
    }

    /** Corridors given as pairs of rooms. */
    static DungeonBuilder grid(int rooms, int... pairs) {
        DungeonBuilder d = grid(rooms);
        for (int i = 0; i < pairs.length; i += 2) {
            Check.due("addCorridor for the grid", d.addCorridor(pairs[i], pairs[i + 1]), i / 2);
        }
        return d;
    }

    /** As many rooms and corridors as there can be: 0 has corridors to all, 1 to all but 11. */
    static DungeonBuilder full() {
        DungeonBuilder d = grid(12);
        for (int b = 1; b < 12; b++) {
            d.addCorridor(0, b);
        }
        for (int b = 2; b < 11; b++) {
            d.addCorridor(1, b);
        }
        Check.due("corridors where all is full", d.count(1), 20);
        return d;
    }

    private static void promise1ANewObject() {
        DungeonBuilder d = new DungeonBuilder();
        for (int what = 0; what <= 9; what++) {
            Check.due("new: count(" + what + ")", d.count(what), 0);
        }
        Check.due("new: entrance()", d.entrance(), NONE);
        Check.due("new: visits()", d.visits(), 0);
        Check.due("new: faultPosition()", d.faultPosition(), NONE);
        Check.due("new: undo()", d.undo(), NONE);
        Check.due("new: restore()", d.restore(), STATE);
        Check.due("new: the curve", d.setCurve(0), 0);
        Check.due("another: addRoom", new DungeonBuilder().addRoom(0, 0, 2, 2), 0);
        Check.due("new: still without rooms", d.count(0), 0);
    }

    private static void promise2AddRoom() {
        DungeonBuilder d = new DungeonBuilder();
        Check.due("addRoom(0, 0, 2, 2)", d.addRoom(0, 0, 2, 2), 0);
        Check.due("addRoom(12, 4, 12, 12)", d.addRoom(12, 4, 12, 12), 1);
        Check.due("addRoom(2, 1, 3, 5)", d.addRoom(2, 1, 3, 5), 2);
        Check.due("room(2, 0)", d.room(2, 0), 2);
        Check.due("room(2, 1)", d.room(2, 1), 1);
        Check.due("room(2, 2)", d.room(2, 2), 3);
        Check.due("room(2, 3)", d.room(2, 3), 5);
        Check.due("room(2, 4): no key", d.room(2, 4), NONE);
        Check.due("touching below", d.addRoom(0, 2, 2, 2), 3);
        Check.due("in the lower right corner", new DungeonBuilder().addRoom(22, 14, 2, 2), 0);
        Check.due("the greatest height", new DungeonBuilder().addRoom(0, 4, 2, 12), 0);
        Check.due("the greatest width", new DungeonBuilder().addRoom(12, 0, 12, 2), 0);
    }

    private static void promise2OrderOfErrors() {
        int[][] bad = {{0, 0, 1, 2}, {0, 0, 2, 1}, {0, 0, 13, 2}, {0, 0, 2, 13}, {-1, 0, 2, 2}, {0, -1, 2, 2},
            {23, 0, 2, 2}, {0, 15, 2, 2}, {13, 0, 12, 2}, {0, 5, 2, 12}, {24, 16, 2, 2}, {0, 0, 0, 0}, {0, 0, -2, -2},
            {Integer.MAX_VALUE, 0, 2, 2}, {0, Integer.MAX_VALUE, 2, 2}, {0, 0, Integer.MAX_VALUE, 2},
            {0, 0, 2, Integer.MAX_VALUE}, {Integer.MIN_VALUE, 0, 2, 2}, {0, 0, Integer.MIN_VALUE, 2},
            {Integer.MAX_VALUE - 1, Integer.MAX_VALUE - 1, 12, 12}};
        DungeonBuilder empty = new DungeonBuilder();
        DungeonBuilder full = grid(12);
        for (int[] r : bad) {
            String call = "addRoom(" + r[0] + ", " + r[1] + ", " + r[2] + ", " + r[3] + ")";
            Check.due(call, empty.addRoom(r[0], r[1], r[2], r[3]), BAD_VALUE);
            Check.due(call + " among 12", full.addRoom(r[0], r[1], r[2], r[3]), BAD_VALUE);
        }
        Check.due("in the way, among 12", full.addRoom(1, 1, 2, 2), CONFLICT);
        Check.due("free, among 12", full.addRoom(2, 0, 2, 2), FULL);
        Check.due("still 12", full.count(0), 12);
        DungeonBuilder one = new DungeonBuilder();
        one.addRoom(4, 4, 4, 3);
        int[][] meeting = {{7, 6, 2, 2}, {3, 3, 2, 2}, {7, 3, 2, 2}, {3, 6, 2, 2}, {5, 5, 2, 2}, {0, 5, 12, 2},
            {5, 0, 2, 12}, {4, 4, 4, 3}, {2, 2, 12, 12}};
        for (int[] r : meeting) {
            Check.due("addRoom at " + r[0] + ", " + r[1], one.addRoom(r[0], r[1], r[2], r[3]), CONFLICT);
        }
        int[][] touching = {{8, 4, 2, 2}, {2, 4, 2, 2}, {4, 2, 2, 2}, {4, 7, 2, 2}, {8, 7, 2, 2}};
        for (int i = 0; i < touching.length; i++) {
            int[] r = touching[i];
            Check.due("touching at " + r[0] + ", " + r[1], one.addRoom(r[0], r[1], r[2], r[3]), i + 1);
        }
    }

    private static void promise3AddCorridor() {
        DungeonBuilder d = grid(4);
        Check.due("addCorridor(0, 1)", d.addCorridor(0, 1), 0);
        Check.due("addCorridor(3, 2)", d.addCorridor(3, 2), 1);
        Check.due("the lower room", d.corridor(1, 0), 2);
        Check.due("the higher room", d.corridor(1, 1), 3);
        Check.due("no lock", d.corridor(1, 2), NONE);
        Check.due("addCorridor(1, 0)", d.addCorridor(1, 0), CONFLICT);
        Check.due("addCorridor(2, 3)", d.addCorridor(2, 3), CONFLICT);
        Check.due("addCorridor(0, 3)", d.addCorridor(0, 3), 2);
        Check.due("three corridors", d.count(1), 3);
    }

    private static void promise3OrderOfErrors() {
        DungeonBuilder d = full();
        Check.due("addCorridor(1, 11)", d.addCorridor(1, 11), FULL);
        Check.due("addCorridor(1, 10) among 20", d.addCorridor(1, 10), CONFLICT);
        Check.due("addCorridor(11, 11) among 20", d.addCorridor(11, 11), BAD_VALUE);
        Check.due("addCorridor(12, 12)", d.addCorridor(12, 12), NO_SUCH_ELEMENT);
        Check.due("addCorridor(-1, -1)", d.addCorridor(-1, -1), NO_SUCH_ELEMENT);
        Check.due("addCorridor(0, 12)", d.addCorridor(0, 12), NO_SUCH_ELEMENT);
        Check.due("addCorridor(12, 0)", d.addCorridor(12, 0), NO_SUCH_ELEMENT);
        Check.due("addCorridor(-1, 0)", d.addCorridor(-1, 0), NO_SUCH_ELEMENT);
        Check.due("addCorridor(0, MIN)", d.addCorridor(0, Integer.MIN_VALUE), NO_SUCH_ELEMENT);
        Check.due("addCorridor(MAX, 0)", d.addCorridor(Integer.MAX_VALUE, 0), NO_SUCH_ELEMENT);
        Check.due("still 20", d.count(1), 20);
    }

    private static void promise4SetLock() {
        DungeonBuilder d = grid(3, 0, 1, 1, 2);
        Check.due("setLock(0, 0)", d.setLock(0, 0), NONE);
        Check.due("setLock(0, 5)", d.setLock(0, 5), 0);
        Check.due("setLock(0, 5) again", d.setLock(0, 5), 5);
        Check.due("setLock(1, 5)", d.setLock(1, 5), NONE);
        Check.due("two locks", d.count(2), 2);
        Check.due("setLock(0, 6)", d.setLock(0, 6), BAD_VALUE);
        Check.due("setLock(0, -2)", d.setLock(0, -2), BAD_VALUE);
        Check.due("setLock(0, MIN)", d.setLock(0, Integer.MIN_VALUE), BAD_VALUE);
        Check.due("setLock(2, 6)", d.setLock(2, 6), NO_SUCH_ELEMENT);
        Check.due("setLock(-1, 0)", d.setLock(-1, 0), NO_SUCH_ELEMENT);
        Check.due("setLock(20, 0)", d.setLock(20, 0), NO_SUCH_ELEMENT);
        Check.due("the lock is as before", d.corridor(0, 2), 5);
        Check.due("setLock(0, -1)", d.setLock(0, -1), 5);
        Check.due("setLock(0, -1) again", d.setLock(0, -1), NONE);
        Check.due("no lock any more", d.corridor(0, 2), NONE);
        Check.due("one lock", d.count(2), 1);
    }

    private static void promise5SetKey() {
        DungeonBuilder d = grid(2);
        Check.due("setKey(1, 0)", d.setKey(1, 0), NONE);
        Check.due("setKey(1, 5)", d.setKey(1, 5), 0);
        Check.due("setKey(0, 5)", d.setKey(0, 5), NONE);
        Check.due("two keys", d.count(3), 2);
        Check.due("setKey(1, 6)", d.setKey(1, 6), BAD_VALUE);
        Check.due("setKey(1, -2)", d.setKey(1, -2), BAD_VALUE);
        Check.due("setKey(2, 6)", d.setKey(2, 6), NO_SUCH_ELEMENT);
        Check.due("setKey(-1, 0)", d.setKey(-1, 0), NO_SUCH_ELEMENT);
        Check.due("setKey(MAX, 0)", d.setKey(Integer.MAX_VALUE, 0), NO_SUCH_ELEMENT);
        Check.due("the key is as before", d.room(1, 4), 5);
        Check.due("setKey(1, -1)", d.setKey(1, -1), 5);
        Check.due("setKey(1, -1) again", d.setKey(1, -1), NONE);
        Check.due("no key any more", d.room(1, 4), NONE);
        Check.due("one key", d.count(3), 1);
    }

    private static void promise6SetEntrance() {
        DungeonBuilder d = grid(3);
        Check.due("setEntrance(2)", d.setEntrance(2), 0);
        Check.due("setEntrance(2) again", d.setEntrance(2), 2);
        Check.due("setEntrance(1)", d.setEntrance(1), 2);
        Check.due("setEntrance(3)", d.setEntrance(3), NO_SUCH_ELEMENT);
        Check.due("setEntrance(-1)", d.setEntrance(-1), NO_SUCH_ELEMENT);
        Check.due("setEntrance(MAX)", d.setEntrance(Integer.MAX_VALUE), NO_SUCH_ELEMENT);
        Check.due("entrance()", d.entrance(), 1);
        Check.due("setEntrance(0) without rooms", new DungeonBuilder().setEntrance(0), NO_SUCH_ELEMENT);
    }

    private static void promise7RemoveRoom() {
        DungeonBuilder d = grid(5, 0, 1, 1, 2, 2, 3, 3, 4, 0, 4);
        d.setLock(0, 0);
        d.setLock(2, 3);
        d.setLock(4, 1);
        d.setKey(1, 0);
        d.setKey(3, 5);
        d.setKey(4, 2);
        d.setEntrance(3);
        Check.due("removeRoom(5)", d.removeRoom(5), NO_SUCH_ELEMENT);
        Check.due("removeRoom(-1)", d.removeRoom(-1), NO_SUCH_ELEMENT);
        Check.due("still five", d.count(0), 5);
        Check.due("removeRoom(1)", d.removeRoom(1), 4);
        Check.due("its key went with it", d.count(3), 2);
        int[][] rooms = {{0, NONE}, {8, NONE}, {12, 5}, {16, 2}};
        for (int i = 0; i < 4; i++) {
            Check.due("room(" + i + ", 0)", d.room(i, 0), rooms[i][0]);
            Check.due("room(" + i + ", 4)", d.room(i, 4), rooms[i][1]);
        }
        int[][] corridors = {{1, 2, 3}, {2, 3, NONE}, {0, 3, 1}};
        Check.due("three corridors remain", d.count(1), 3);
        for (int c = 0; c < 3; c++) {
            for (int what = 0; what < 3; what++) {
                Check.due("corridor(" + c + ", " + what + ")", d.corridor(c, what), corridors[c][what]);
            }
        }
        Check.due("removeRoom(4)", d.removeRoom(4), NO_SUCH_ELEMENT);
        Check.due("addCorridor(0, 1) is free again", d.addCorridor(0, 1), 3);
        Check.due("addRoom on the free place", d.addRoom(4, 0, 2, 2), 4);
    }

    private static void promise7TheEntrance() {
        DungeonBuilder d = grid(5);
        d.setEntrance(3);
        d.removeRoom(4);
        Check.due("a later room is removed", d.entrance(), 3);
        d.removeRoom(0);
        Check.due("an earlier room is removed", d.entrance(), 2);
        d.removeRoom(2);
        Check.due("the entrance is removed", d.entrance(), 0);
        d.removeRoom(0);
        Check.due("room 0, the entrance, is removed", d.entrance(), 0);
        Check.due("the last room is removed", d.removeRoom(0), 0);
        Check.due("no entrance", d.entrance(), NONE);
        Check.due("removeRoom(0) without rooms", d.removeRoom(0), NO_SUCH_ELEMENT);
        d.addRoom(0, 0, 2, 2);
        d.addRoom(4, 0, 2, 2);
        Check.due("the first room is the entrance again", d.entrance(), 0);
    }

    private static void promise8RemoveCorridor() {
        DungeonBuilder d = grid(4, 0, 1, 1, 2, 2, 3);
        d.setLock(0, 1);
        d.setLock(1, 4);
        d.setLock(2, 2);
        Check.due("removeCorridor(3)", d.removeCorridor(3), NO_SUCH_ELEMENT);
        Check.due("removeCorridor(-1)", d.removeCorridor(-1), NO_SUCH_ELEMENT);
        Check.due("removeCorridor(1)", d.removeCorridor(1), 2);
        Check.due("two locks remain", d.count(2), 2);
        int[][] corridors = {{0, 1, 1}, {2, 3, 2}};
        for (int c = 0; c < 2; c++) {
            for (int what = 0; what < 3; what++) {
                Check.due("corridor(" + c + ", " + what + ")", d.corridor(c, what), corridors[c][what]);
            }
        }
        Check.due("corridor(2, 0)", d.corridor(2, 0), NO_SUCH_ELEMENT);
        Check.due("removeCorridor(1), the last one", d.removeCorridor(1), 1);
        Check.due("removeCorridor(0)", d.removeCorridor(0), 0);
        Check.due("removeCorridor(0) again", d.removeCorridor(0), NO_SUCH_ELEMENT);
        Check.due("a new one has no lock", d.addCorridor(0, 1) + d.corridor(0, 2), NONE);
    }

    private static void promise10AddLoop() {
        DungeonBuilder d = grid(8);
        int[][] due = {{0, 1}, {1, 2}, {2, 3}, {3, 4}, {4, 5}, {6, 7}, {0, 2}, {0, 6}, {1, 3}, {1, 7}, {2, 4}};
        for (int i = 0; i < due.length; i++) {
            Check.due("addLoop()", d.addLoop(), i);
            Check.due("the lower room of loop " + i, d.corridor(i, 0), due[i][0]);
            Check.due("the higher room of loop " + i, d.corridor(i, 1), due[i][1]);
            Check.due("the lock of loop " + i, d.corridor(i, 2), NONE);
        }
        DungeonBuilder far = new DungeonBuilder();
        far.addRoom(0, 0, 2, 2);
        far.addRoom(22, 14, 2, 2);
        Check.due("addLoop() from corner to corner", far.addLoop(), 0);
        DungeonBuilder gap = grid(4, 1, 2);
        gap.removeCorridor(0);
        gap.addCorridor(0, 1);
        Check.due("addLoop() after removing", gap.addLoop(), 1);
        Check.due("between(1, 2)", gap.between(1, 2), 1);
    }

    private static void promise10OrderOfErrors() {
        DungeonBuilder d = new DungeonBuilder();
        Check.due("addLoop() without rooms", d.addLoop(), NONE);
        d.addRoom(0, 0, 2, 2);
        Check.due("addLoop() with one room", d.addLoop(), NONE);
        d.addRoom(4, 0, 2, 2);
        Check.due("addLoop() with two rooms", d.addLoop(), 0);
        Check.due("addLoop() again", d.addLoop(), NONE);
        DungeonBuilder seven = grid(7);
        for (int i = 0; i < 20; i++) {
            Check.due("addLoop() among seven", seven.addLoop(), i);
        }
        Check.due("addLoop() for the 21st", seven.addLoop(), FULL);
        Check.due("still 20", seven.count(1), 20);
        seven.removeRoom(6);
        Check.due("the pair that was left was 5 and 6", seven.count(1), 15);
        Check.due("addLoop() among six", seven.addLoop(), NONE);
    }

    private static void promise11PlaceLock() {
        // A row of six: 2 times the far side minus 6 is 4, 2, 0, 2, 4 for the five corridors.
        DungeonBuilder row = grid(6, 0, 1, 1, 2, 2, 3, 3, 4, 4, 5);
        Check.due("the middle", row.placeLock(), 2);
        Check.due("its color", row.corridor(2, 2), 0);
        Check.due("the deepest room before it", row.room(2, 4), 0);
        Check.due("of two the lowest", row.placeLock(), 1);
        Check.due("its color", row.corridor(1, 2), 1);
        Check.due("the key", row.room(1, 4), 1);
        Check.due("the next", row.placeLock(), 3);
        Check.due("its color", row.corridor(3, 2), 2);
        Check.due("the key", row.room(3, 4), 2);
        Check.due("it can be solved", row.isSolvable(), 1);

        // The far side is seen from the entrance; rooms that cannot be reached count among all rooms alone.
        DungeonBuilder lost = grid(9, 0, 1, 1, 2, 2, 3, 3, 4, 4, 5);
        lost.setEntrance(5);
        Check.due("4 of 9, of two the lowest", lost.placeLock(), 3);
        Check.due("the key", lost.room(4, 4), 0);
        DungeonBuilder apart = grid(6, 0, 1, 3, 4, 4, 5);
        Check.due("corridors out of reach are no candidates", apart.placeLock(), 0);
        Check.due("then there is none", apart.placeLock(), NONE);

        // A ring has no far sides, but the way out of it has one; locks on the ring do not matter.
        DungeonBuilder ring = grid(5, 0, 1, 1, 2, 0, 2, 2, 3, 3, 4);
        ring.setLock(0, 3);
        ring.setLock(2, 3);
        Check.due("behind the ring", ring.placeLock(), 3);
    }

    private static void promise11TheRoomOfTheKey() {
        // 0 is in the middle of 1-2, 3 and, behind what is locked, 4-5.
        int[] pairs = {0, 1, 1, 2, 0, 3, 0, 4, 4, 5};
        DungeonBuilder d = grid(6, pairs);
        Check.due("2 of 6, the lowest", d.placeLock(), 0);
        Check.due("key in the deepest room that a visit reaches", d.room(5, 4), 0);
        DungeonBuilder locked = grid(6, pairs);
        locked.setLock(4, 5);
        Check.due("0 again", locked.placeLock(), 0);
        Check.due("not behind a lock that stays closed, of several the lowest", locked.room(3, 4), 0);
        locked = grid(6, pairs);
        locked.setLock(4, 0);
        Check.due("0 again", locked.placeLock(), 0);
        Check.due("also of color 0", locked.room(3, 4), 1);
        DungeonBuilder opened = grid(6, pairs);
        opened.setLock(4, 5);
        opened.setKey(3, 5);
        Check.due("0 again", opened.placeLock(), 0);
        Check.due("behind a lock that can be opened", opened.room(5, 4), 0);
        DungeonBuilder taken = grid(6, pairs);
        taken.setKey(5, 3);
        taken.setKey(3, 3);
        taken.setKey(4, 3);
        Check.due("0 again", taken.placeLock(), 0);
        Check.due("in the entrance, the only room without a key", taken.room(0, 4), 0);
        taken = grid(2, 0, 1);
        taken.setKey(0, 1);
        Check.due("no room for the key", taken.placeLock(), STATE);
        Check.due("no lock was set", taken.count(2), 0);
    }

    private static void promise11Colors() {
        DungeonBuilder d = grid(6, 0, 1, 1, 2, 2, 3, 3, 4, 4, 5);
        d.setKey(5, 0);
        d.setLock(0, 1);
        d.setKey(0, 1);
        d.setKey(4, 3);
        Check.due("placeLock()", d.placeLock(), 2);
        Check.due("the lowest color that no lock and no key has", d.corridor(2, 2), 2);
        Check.due("placeLock()", d.placeLock(), 1);
        Check.due("the next color", d.corridor(1, 2), 4);
        Check.due("placeLock()", d.placeLock(), 3);
        Check.due("the last color", d.corridor(3, 2), 5);
        Check.due("no color left", d.placeLock(), FULL);
        d.setKey(5, -1);
        Check.due("a color is free again, but no room", d.placeLock(), STATE);
        d.setKey(4, -1);
        Check.due("two colors are free, and a room", d.placeLock(), 4);
        Check.due("the lowest one is taken", d.corridor(4, 2), 0);
        Check.due("in the room", d.room(4, 4), 0);
        DungeonBuilder lockOnly = grid(4, 0, 1, 1, 2, 2, 3);
        lockOnly.setLock(0, 0);
        lockOnly.setKey(3, 1);
        Check.due("placeLock()", lockOnly.placeLock(), 1);
        Check.due("its color", lockOnly.corridor(1, 2), 2);
    }

    private static void promise11OrderOfErrors() {
        DungeonBuilder d = new DungeonBuilder();
        Check.due("placeLock() without rooms", d.placeLock(), NONE);
        DungeonBuilder ring = grid(3, 0, 1, 1, 2, 0, 2);
        Check.due("placeLock() on a ring", ring.placeLock(), NONE);
        DungeonBuilder full = grid(7, 0, 1, 1, 2, 2, 3, 3, 4, 4, 5);
        for (int color = 0; color < 6; color++) {
            full.setKey(color, color);
        }
        String before = Check.picture(full);
        Check.due("no color is told before no room", full.placeLock(), FULL);
        Check.holds("nothing has changed", before.equals(Check.picture(full)));
        for (int c = 0; c < 5; c++) {
            full.setLock(c, 0);
        }
        Check.due("no candidate is told before no color", full.placeLock(), NONE);
        DungeonBuilder state = grid(3, 0, 1, 1, 2);
        state.setKey(0, 1);
        Check.due("no room before the lowest of the best", state.placeLock(), STATE);
    }

    private static void promise12SetCurve() {
        DungeonBuilder d = new DungeonBuilder();
        Check.due("setCurve(2)", d.setCurve(2), 0);
        Check.due("setCurve(1)", d.setCurve(1), 2);
        Check.due("setCurve(3)", d.setCurve(3), BAD_VALUE);
        Check.due("setCurve(-1)", d.setCurve(-1), BAD_VALUE);
        Check.due("setCurve(MIN)", d.setCurve(Integer.MIN_VALUE), BAD_VALUE);
        Check.due("setCurve(0)", d.setCurve(0), 1);
        Check.due("setCurve(0) again", d.setCurve(0), 0);
    }

    private static void whereAllIsFull() {
        DungeonBuilder d = full();
        Check.due("the only bridge", d.placeLock(), 10);
        Check.due("the deepest room without a key, of several the lowest", d.room(1, 4), 0);
        Check.due("removeRoom(11)", d.removeRoom(11), 11);
        Check.due("corridors", d.count(1), 19);
        d.undo();
        Check.due("removeCorridor(19)", d.removeCorridor(19), 19);
        d.undo();
        Check.due("removeCorridor(0)", d.removeCorridor(0), 19);
        Check.due("corridor(18, 1)", d.corridor(18, 1), 10);
        d.undo();
        Check.due("removeRoom(0)", d.removeRoom(0), 11);
        Check.due("corridors", d.count(1), 9);
        Check.due("corridor(8, 1)", d.corridor(8, 1), 9);
        d.undo();
        Check.due("corridors", d.count(1), 20);
        d.removeRoom(11);
        d.addRoom(22, 14, 2, 2);
        d.addCorridor(2, 3);
        Check.due("removeRoom(11) without corridors", d.removeRoom(11), 11);
        Check.due("corridors", d.count(1), 20);
        Check.due("corridor(19, 1)", d.corridor(19, 1), 3);
    }
}
