/** Promises 25 to 31 and 37 to 40: depths, difficulties and visits. */
public final class VisitTest {
    private static final int NO_SUCH_ELEMENT = -101;
    private static final int NONE = -104;

    public static void main(String[] args) {
        promise25Depth();
        promise26Difficulty();
        promise27Visits();
        promise28Visit();
        promise28TheLeastDifficulty();
        promise28KeysAndLocks();
        promise29VisitedAt();
        promise30IsSolvable();
        promise31KeysFound();
        promise37Tension();
        promise38Drops();
        promise39Backtracking();
        promise40AverageBits();
        anewAfterAChange();
        whereAllIsFull();
        Check.end();
    }

    /** 0-1, behind it 2 with a lock of color 0, behind that 5 with one of color 1; 0-3-4, where 4 has the key 0. */
    static DungeonBuilder locked() {
        DungeonBuilder d = EditingTest.grid(6, 0, 1, 1, 2, 0, 3, 3, 4, 2, 5);
        d.setLock(1, 0);
        d.setLock(4, 1);
        d.setKey(4, 0);
        return d;
    }

    private static void order(String name, DungeonBuilder d, int... due) {
        Check.due(name + ": visits()", d.visits(), due.length);
        for (int i = 0; i < due.length; i++) {
            Check.due(name + ": visit(" + i + ")", d.visit(i), due[i]);
            Check.due(name + ": visitedAt(" + due[i] + ")", d.visitedAt(due[i]), i);
        }
        Check.due(name + ": visit(" + due.length + ")", d.visit(due.length), NO_SUCH_ELEMENT);
        Check.due(name + ": visit(-1)", d.visit(-1), NO_SUCH_ELEMENT);
    }

    private static void promise25Depth() {
        DungeonBuilder d = EditingTest.grid(7, 0, 1, 1, 2, 2, 3, 3, 4, 0, 4, 5, 6);
        int[] due = {0, 1, 2, 2, 1, -1, -1};
        int[] from3 = {2, 2, 1, 0, 1, -1, -1};
        d.setLock(0, 1);
        for (int room = 0; room < 7; room++) {
            Check.due("depth(" + room + ")", d.depth(room), due[room]);
        }
        d.setEntrance(3);
        for (int room = 0; room < 7; room++) {
            Check.due("from 3: depth(" + room + ")", d.depth(room), from3[room]);
        }
        for (int room : new int[] {-1, 7, 12, Integer.MIN_VALUE, Integer.MAX_VALUE}) {
            Check.due("depth(" + room + ")", d.depth(room), NO_SUCH_ELEMENT);
        }
        DungeonBuilder row = EditingTest.grid(12, 11, 10, 10, 9, 9, 8, 8, 7, 7, 6, 6, 5, 5, 4, 4, 3, 3, 2, 2, 1, 1, 0);
        Check.due("the greatest depth", row.depth(11), 11);
        Check.due("depth(0) without rooms", new DungeonBuilder().depth(0), NO_SUCH_ELEMENT);
    }

    private static void promise26Difficulty() {
        DungeonBuilder d = Check.made("r0,0,2,3;r4,0,3,5;r8,0,3,3;r12,0,12,12;r0,8,5,5", "c0,1;c1,2;c2,3;c1,3");
        int[][] due = {{0, 10, 20, 20, 500}, {0 + 1, 1 + 3, 4 + 2, 4 + 36, 500}, {90, 71, 82, 82, 500}};
        for (int curve = 0; curve < 3; curve++) {
            d.setCurve(curve);
            for (int room = 0; room < 5; room++) {
                Check.due("curve " + curve + ": difficulty(" + room + ")", d.difficulty(room), due[curve][room]);
            }
            Check.due("difficulty(5)", d.difficulty(5), NO_SUCH_ELEMENT);
            Check.due("difficulty(-1)", d.difficulty(-1), NO_SUCH_ELEMENT);
        }
        DungeonBuilder star = EditingTest.grid(12, 0, 1, 0, 2, 0, 3, 0, 4, 0, 5, 0, 6, 0, 7, 0, 8, 0, 9, 0, 10, 0, 11);
        star.setCurve(2);
        Check.due("less than 0", star.difficulty(0), -10);
        Check.due("difficulty(0) without rooms", new DungeonBuilder().difficulty(0), NO_SUCH_ELEMENT);
    }

    private static void promise27Visits() {
        Check.due("visits() without rooms", new DungeonBuilder().visits(), 0);
        Check.due("visits() of the entrance alone", EditingTest.grid(3).visits(), 1);
        Check.due("visits() up to a lock", locked().visits(), 5);
        DungeonBuilder d = locked();
        d.setKey(4, -1);
        Check.due("visits() without the key", d.visits(), 4);
        d.setKey(4, 1);
        Check.due("visits() with another key", d.visits(), 4);
        d.setLock(1, 1);
        Check.due("one key opens several locks", d.visits(), 6);
    }

    private static void promise28Visit() {
        order("no rooms", new DungeonBuilder());
        order("one room", EditingTest.grid(1), 0);
        order("locked", locked(), 0, 1, 3, 4, 2);
        DungeonBuilder d = locked();
        d.setEntrance(4);
        order("from the key", d, 4, 3, 0, 1, 2);
        for (int index : new int[] {5, 6, 12, Integer.MIN_VALUE, Integer.MAX_VALUE}) {
            Check.due("visit(" + index + ")", d.visit(index), NO_SUCH_ELEMENT);
        }
        d.setEntrance(5);
        order("from behind the locks", d, 5);
    }

    private static void promise28TheLeastDifficulty() {
        // By curve 1, a large room waits although it is near; of several of one difficulty, the lowest is first.
        DungeonBuilder d = Check.made("r0,0,2,2;r3,0,8,8;r12,0,2,2;r12,4,2,2;r16,0,2,2",
                "c0,1;c0,3;c0,2;c2,4;c1,4");
        order("curve 0", d, 0, 1, 2, 3, 4);
        d.setCurve(1);
        order("curve 1", d, 0, 2, 3, 4, 1);
        d.setCurve(2);
        order("curve 2", d, 0, 1, 2, 4, 3);
        DungeonBuilder tie = EditingTest.grid(5, 0, 4, 0, 3, 0, 2, 0, 1);
        order("of several the lowest", tie, 0, 1, 2, 3, 4);
    }

    private static void promise28KeysAndLocks() {
        DungeonBuilder d = EditingTest.grid(4, 0, 1, 1, 2, 0, 3);
        d.setLock(0, 5);
        d.setLock(2, 0);
        order("both locked", d, 0);
        d.setKey(0, 5);
        order("the key lies in the entrance", d, 0, 1, 2);
        d.setKey(2, 0);
        order("the key lies behind", d, 0, 1, 2, 3);
        d.setKey(2, -1);
        d.setKey(3, 0);
        order("the key lies behind its own lock", d, 0, 1, 2);
        d.setKey(0, 0);
        order("another key in the entrance", d, 0, 3);
    }

    private static void promise29VisitedAt() {
        DungeonBuilder d = locked();
        int[] due = {0, 1, 4, 2, 3, NONE};
        for (int room = 0; room < 6; room++) {
            Check.due("visitedAt(" + room + ")", d.visitedAt(room), due[room]);
        }
        for (int room : new int[] {-1, 6, 12, Integer.MIN_VALUE, Integer.MAX_VALUE}) {
            Check.due("visitedAt(" + room + ")", d.visitedAt(room), NO_SUCH_ELEMENT);
        }
        Check.due("visitedAt(0) without rooms", new DungeonBuilder().visitedAt(0), NO_SUCH_ELEMENT);
    }

    private static void promise30IsSolvable() {
        DungeonBuilder d = locked();
        Check.due("isSolvable() without rooms", new DungeonBuilder().isSolvable(), NONE);
        Check.due("isSolvable() with one room", EditingTest.grid(1).isSolvable(), 1);
        Check.due("isSolvable() with two rooms apart", EditingTest.grid(2).isSolvable(), 0);
        Check.due("isSolvable() without a key", d.isSolvable(), 0);
        d.setKey(2, 1);
        Check.due("isSolvable() with all keys", d.isSolvable(), 1);
        d.setEntrance(5);
        Check.due("isSolvable() from behind the lock", d.isSolvable(), 0);
    }

    private static void promise31KeysFound() {
        DungeonBuilder d = locked();
        Check.due("keysFound() without rooms", new DungeonBuilder().keysFound(), 0);
        Check.due("keysFound()", d.keysFound(), 1);
        d.setKey(5, 1);
        Check.due("a key that is not reached", d.keysFound(), 1);
        d.setKey(0, 5);
        d.setKey(1, 5);
        d.setKey(2, 3);
        Check.due("several keys", d.keysFound(), 1 + 8 + 32);
        DungeonBuilder alone = EditingTest.grid(1);
        alone.setKey(0, 4);
        Check.due("the key in the only room", alone.keysFound(), 16);
        d.setKey(4, -1);
        Check.due("up to the lock", d.keysFound(), 32);
        d.setEntrance(5);
        Check.due("from behind a lock that its own key opens", d.keysFound(), 2 + 8);
    }

    private static void promise37Tension() {
        DungeonBuilder d = locked();
        int[] due = {NO_SUCH_ELEMENT, 1010, 1000, 1010, 1000, NO_SUCH_ELEMENT};
        for (int index = 0; index < due.length; index++) {
            Check.due("tension(" + index + ")", d.tension(index), due[index]);
        }
        for (int index : new int[] {-1, 6, 12, Integer.MIN_VALUE, Integer.MAX_VALUE}) {
            Check.due("tension(" + index + ")", d.tension(index), NO_SUCH_ELEMENT);
        }
        // By curve 2: 80, 81, 82, 81, 92, 93, visited in the order 0, 1, 3, 4, 2.
        d.setCurve(2);
        int[] curve2 = {NO_SUCH_ELEMENT, 1001, 1000, 1011, 990, NO_SUCH_ELEMENT};
        for (int index = 0; index < curve2.length; index++) {
            Check.due("curve 2: tension(" + index + ")", d.tension(index), curve2[index]);
        }
        Check.due("tension(0) without rooms", new DungeonBuilder().tension(0), NO_SUCH_ELEMENT);
        Check.due("tension(1) without rooms", new DungeonBuilder().tension(1), NO_SUCH_ELEMENT);
    }

    private static void promise38Drops() {
        DungeonBuilder d = locked();
        Check.due("drops() without rooms", new DungeonBuilder().drops(), 0);
        Check.due("drops() of one room", EditingTest.grid(1).drops(), 0);
        Check.due("drops(): equal is no drop", d.drops(), 0);
        d.setCurve(2);
        Check.due("drops() by curve 2", d.drops(), 1);
        // By curve 1 the first large rooms drop to the next small ones: 16, 17, 5, 10.
        DungeonBuilder large = Check.made("r0,0,8,8;r8,0,8,8;r16,0,2,2;r20,0,2,2;c0,1;c1,2;c2,3");
        large.setCurve(1);
        Check.due("drops() by curve 1", large.drops(), 1);
        DungeonBuilder least = Check.made("r0,0,2,6;r4,0,2,2;c0,1");
        least.setCurve(1);
        Check.due("drops() by one: 3, 2", least.drops(), 1);
        large.setEntrance(3);
        Check.due("drops() the other way", large.drops(), 0);
        large.setCurve(2);
        Check.due("drops() by curve 2 on a row: 90, 81, 82, 93", large.drops(), 1);
    }

    private static void promise39Backtracking() {
        DungeonBuilder d = locked();
        Check.due("backtracking() without rooms", new DungeonBuilder().backtracking(), 0);
        Check.due("backtracking() of one room", EditingTest.grid(1).backtracking(), 0);
        Check.due("backtracking(): 1 + 2 + 1 + 4", d.backtracking(), 8);
        d.addCorridor(2, 4);
        d.setLock(5, 2);
        Check.due("a short way whose lock does not matter: 1 + 2 + 1 + 1", d.backtracking(), 5);
        Check.due("backtracking() on a row", EditingTest.grid(4, 0, 1, 1, 2, 2, 3).backtracking(), 3);
        Check.due("backtracking() on a star", EditingTest.grid(4, 0, 1, 0, 2, 0, 3).backtracking(), 5);
    }

    private static void average(String name, DungeonBuilder d, double due) {
        Check.due("averageBits() of " + name, d.averageBits(), Double.doubleToLongBits(due));
    }

    private static void promise40AverageBits() {
        Check.due("averageBits() without rooms", new DungeonBuilder().averageBits(), Long.MIN_VALUE);
        average("one room", EditingTest.grid(1), 0.0);
        average("rooms that are visited or not", locked(), 15.0);
        average("two rooms apart", EditingTest.grid(2), 250.0);
        average("three rooms", EditingTest.grid(3, 0, 1, 0, 2), 20.0 / 3.0);
        average("twelve rooms apart", EditingTest.grid(12), 5500.0 / 12.0);
        average("a row of seven", EditingTest.grid(7, 0, 1, 1, 2, 2, 3, 3, 4, 4, 5, 5, 6), 30.0);
        DungeonBuilder d = EditingTest.grid(11, 0, 1, 0, 2, 0, 3, 3, 4);
        average("eleven rooms", d, (10 + 10 + 10 + 20 + 6 * 500) / 11.0);
        d.setCurve(2);
        average("eleven rooms by curve 2", d, (70 + 91 + 91 + 81 + 92 + 6 * 500) / 11.0);
        DungeonBuilder one = EditingTest.grid(1);
        one.setCurve(1);
        average("the least room by curve 1", one, 1.0);
        one.setCurve(2);
        average("one room by curve 2", one, 100.0);
        int[][] powers = {{2, 4, 2}, {4, 4, 4}, {4, 8, 8}, {8, 8, 16}};
        for (int[] power : powers) {
            DungeonBuilder room = new DungeonBuilder();
            room.addRoom(0, 0, power[0], power[1]);
            room.setCurve(1);
            average("a power of two", room, power[2]);
        }
        DungeonBuilder small = EditingTest.grid(2, 0, 1);
        small.setCurve(1);
        average("small numbers", small, 3.0 / 2.0);
        DungeonBuilder least = Check.made("r0,0,2,2;r2,0,2,3;r4,0,2,2;c0,1;c0,2");
        least.setCurve(1);
        average("one sixth steps", least, 5.0 / 3.0);
    }

    /** Every answer is asked for first after a change, so that none can come from what another call has worked out. */
    private static void anewAfterAChange() {
        DungeonBuilder d = EditingTest.grid(2, 0, 1);
        Check.due("depth(1)", d.depth(1), 1);
        d.setEntrance(1);
        Check.due("depth(1), the entrance", d.depth(1), 0);
        d.setEntrance(0);
        Check.due("difficulty(1)", d.difficulty(1), 10);
        d.setEntrance(1);
        Check.due("visit(0)", d.visit(0), 1);
        d.setEntrance(0);
        Check.due("visitedAt(0)", d.visitedAt(0), 0);
        d.removeCorridor(0);
        Check.due("visits()", d.visits(), 1);
        d.addCorridor(0, 1);
        Check.due("isSolvable()", d.isSolvable(), 1);
        d.removeCorridor(0);
        Check.due("tension(1)", d.tension(1), NO_SUCH_ELEMENT);
        d.addCorridor(0, 1);
        d.setCurve(2);
        Check.due("drops(): 90, 91", d.drops(), 0);
        d.setCurve(0);
        Check.due("backtracking()", d.backtracking(), 1);
        d.removeCorridor(0);
        Check.due("averageBits()", d.averageBits(), Double.doubleToLongBits(250.0));
    }

    private static void whereAllIsFull() {
        DungeonBuilder d = EditingTest.full();
        order("full", d, 0, 1, 2, 3, 4, 5, 6, 7, 8, 9, 10, 11);
        Check.due("keysFound()", d.keysFound(), 0);
        Check.due("isSolvable()", d.isSolvable(), 1);
        Check.due("drops()", d.drops(), 0);
        Check.due("backtracking(): 1 + 1 + 8 times 2 + 2", d.backtracking(), 20);
        average("twelve rooms", d, 110.0 / 12.0);
        d.setCurve(2);
        // By curve 2: -10, 1, nine times 81, 91; so -10 to 1 to 81 and so on.
        Check.due("difficulty(0)", d.difficulty(0), -10);
        Check.due("difficulty(1)", d.difficulty(1), 1);
        Check.due("difficulty(10)", d.difficulty(10), 81);
        Check.due("difficulty(11)", d.difficulty(11), 91);
        average("twelve rooms by curve 2", d, (-10 + 1 + 9 * 81 + 91) / 12.0);
    }
}
