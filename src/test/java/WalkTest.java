/** Promises 32 to 36: what keys a room needs, what locks keep it, and the walk to it. */
public final class WalkTest {
    private static final int NO_SUCH_ELEMENT = -101;
    private static final int BAD_VALUE = -102;
    private static final int NONE = -104;

    public static void main(String[] args) {
        promise32Needed();
        promise32SeveralWays();
        promise33Missing();
        promise34WalkLength();
        promise35WalkRoom();
        promise35TheLeastWalk();
        promise35KeysOnTheWay();
        promise36CriticalLength();
        anewAfterAChange();
        whereMuchIsConnected();
        Check.end();
    }

    private static void promise32Needed() {
        DungeonBuilder d = VisitTest.locked();
        int[] due = {0, 0, 1, 0, 0, NONE};
        for (int room = 0; room < 6; room++) {
            Check.due("needed(" + room + ")", d.needed(room), due[room]);
        }
        d.setKey(2, 1);
        Check.due("needed(5): both, one after the other", d.needed(5), 3);
        Check.due("needed(2): its own key is not needed", d.needed(2), 1);
        for (int room : new int[] {-1, 6, 12, Integer.MIN_VALUE, Integer.MAX_VALUE}) {
            Check.due("needed(" + room + ")", d.needed(room), NO_SUCH_ELEMENT);
        }
        d.setEntrance(5);
        Check.due("needed(5) of the entrance", d.needed(5), 0);
        Check.due("needed(0) behind a lock", d.needed(0), NONE);
        Check.due("needed(0) without rooms", new DungeonBuilder().needed(0), NO_SUCH_ELEMENT);
        Check.due("needed(1) apart", EditingTest.grid(2).needed(1), NONE);
        Check.due("needed(0) of the only room", EditingTest.grid(1).needed(0), 0);
        for (int color = 0; color < 6; color++) {
            DungeonBuilder closed = EditingTest.grid(2, 0, 1);
            closed.setLock(0, color);
            Check.due("needed(1) without the key " + color, closed.needed(1), NONE);
            Check.due("missing(1) without the key " + color, closed.missing(1), 1 << color);
            closed.setKey(0, color);
            Check.due("needed(1) with the key " + color, closed.needed(1), 1 << color);
            Check.due("missing(1) with the key " + color, closed.missing(1), NONE);
        }
    }

    private static void promise32SeveralWays() {
        DungeonBuilder d = EditingTest.grid(4, 0, 1, 1, 2, 0, 3, 3, 2);
        d.setLock(1, 4);
        d.setLock(3, 5);
        d.setKey(0, 4);
        Check.due("one way open", d.needed(2), 16);
        d.setKey(1, 5);
        Check.due("two ways with different locks", d.needed(2), 0);
        d.setLock(3, 4);
        Check.due("two ways with the same lock", d.needed(2), 16);
        d.setKey(1, 4);
        Check.due("two keys of one color are taken away at once", d.needed(2), 16);
    }

    private static void promise33Missing() {
        DungeonBuilder d = VisitTest.locked();
        int[] due = {NONE, NONE, NONE, NONE, NONE, 2};
        for (int room = 0; room < 6; room++) {
            Check.due("missing(" + room + ")", d.missing(room), due[room]);
        }
        d.setKey(4, -1);
        Check.due("missing(2)", d.missing(2), 1);
        Check.due("missing(5): one color alone does not help", d.missing(5), 0);
        d.setLock(4, 0);
        Check.due("missing(5): all locks of a color", d.missing(5), 1);
        d.setLock(4, 1);
        d.setKey(2, 1);
        Check.due("missing(5): the key lies behind the other lock", d.missing(5), 1);
        for (int room : new int[] {-1, 6, 12, Integer.MIN_VALUE, Integer.MAX_VALUE}) {
            Check.due("missing(" + room + ")", d.missing(room), NO_SUCH_ELEMENT);
        }
        Check.due("missing(1) apart", EditingTest.grid(2).missing(1), 0);
        Check.due("missing(0) of the entrance", EditingTest.grid(2).missing(0), NONE);
        DungeonBuilder two = EditingTest.grid(4, 0, 1, 1, 2, 0, 3, 3, 2);
        two.setLock(1, 4);
        two.setLock(3, 5);
        Check.due("missing(2): any of two", two.missing(2), 16 + 32);
    }

    private static void promise34WalkLength() {
        DungeonBuilder d = VisitTest.locked();
        int[] due = {0, 1, 6, 1, 2, NONE};
        for (int room = 0; room < 6; room++) {
            Check.due("walkLength(" + room + ")", d.walkLength(room), due[room]);
        }
        for (int room : new int[] {-1, 6, 12, Integer.MIN_VALUE, Integer.MAX_VALUE}) {
            Check.due("walkLength(" + room + ")", d.walkLength(room), NO_SUCH_ELEMENT);
        }
        d.setKey(2, 1);
        Check.due("walkLength(5) with both keys", d.walkLength(5), 7);
        d.setKey(0, 0);
        Check.due("walkLength(5) with a key in the entrance", d.walkLength(5), 3);
        Check.due("walkLength(0) without rooms", new DungeonBuilder().walkLength(0), NO_SUCH_ELEMENT);
    }

    private static void way(DungeonBuilder d, int room, int... due) {
        Check.due("walkLength(" + room + ")", d.walkLength(room), due.length - 1);
        for (int step = 0; step < due.length; step++) {
            Check.due("walkRoom(" + room + ", " + step + ")", d.walkRoom(room, step), due[step]);
        }
        for (int step : new int[] {-1, due.length, Integer.MIN_VALUE, Integer.MAX_VALUE}) {
            Check.due("walkRoom(" + room + ", " + step + ")", d.walkRoom(room, step), BAD_VALUE);
        }
    }

    private static void promise35WalkRoom() {
        DungeonBuilder d = VisitTest.locked();
        way(d, 0, 0);
        way(d, 4, 0, 3, 4);
        way(d, 2, 0, 3, 4, 3, 0, 1, 2);
        Check.due("walkRoom(5, 0) without a walk", d.walkRoom(5, 0), NONE);
        Check.due("walkRoom(5, -1) without a walk", d.walkRoom(5, -1), NONE);
        Check.due("walkRoom(6, -1)", d.walkRoom(6, -1), NO_SUCH_ELEMENT);
        Check.due("walkRoom(-1, 0)", d.walkRoom(-1, 0), NO_SUCH_ELEMENT);
        Check.due("walkRoom(MAX, 0)", d.walkRoom(Integer.MAX_VALUE, 0), NO_SUCH_ELEMENT);
        d.setEntrance(2);
        way(d, 2, 2);
        Check.due("walkRoom(1, 0) behind a lock", d.walkRoom(1, 0), NONE);
    }

    private static void promise35TheLeastWalk() {
        way(EditingTest.grid(4, 2, 3, 0, 2, 1, 3, 0, 1), 3, 0, 1, 3);
        way(EditingTest.grid(5, 0, 4, 4, 1, 1, 2, 0, 3, 3, 2), 2, 0, 3, 2);
        // The first room that differs decides, not the last one: 0 1 4 5 before 0 2 3 5.
        way(EditingTest.grid(6, 0, 2, 2, 3, 3, 5, 0, 1, 1, 4, 4, 5), 5, 0, 1, 4, 5);
        DungeonBuilder from5 = EditingTest.grid(6, 0, 2, 2, 3, 3, 5, 0, 1, 1, 4, 4, 5);
        from5.setEntrance(5);
        way(from5, 0, 5, 3, 2, 0);
    }

    private static void promise35KeysOnTheWay() {
        // Two keys of one color at the same distance, then one that is nearer than the locked way is long.
        DungeonBuilder d = EditingTest.grid(4, 0, 2, 0, 1, 0, 3);
        d.setLock(2, 0);
        d.setKey(2, 0);
        way(d, 3, 0, 2, 0, 3);
        d.setKey(1, 0);
        way(d, 3, 0, 1, 0, 3);
        // Round without the lock in three steps, or for the key in one and back: also three; the least one is taken.
        DungeonBuilder round = EditingTest.grid(5, 0, 1, 0, 4, 0, 2, 2, 3, 3, 4);
        round.setLock(1, 3);
        round.setKey(1, 3);
        way(round, 4, 0, 1, 0, 4);
        round.setKey(1, -1);
        way(round, 4, 0, 2, 3, 4);
        // The key lies in the room from which the lock is passed, and opens the way back as well.
        DungeonBuilder here = EditingTest.grid(4, 0, 1, 1, 2, 2, 3);
        here.setLock(1, 2);
        here.setKey(1, 2);
        here.setLock(2, 3);
        here.setKey(0, 3);
        way(here, 3, 0, 1, 2, 3);
        // Two keys on two sides, both for the third: 1 and 2 hold them, 3 is behind two locks.
        DungeonBuilder both = EditingTest.grid(5, 0, 1, 0, 2, 0, 3, 3, 4);
        both.setKey(1, 0);
        both.setKey(2, 1);
        both.setLock(2, 1);
        both.setLock(3, 0);
        way(both, 3, 0, 2, 0, 3);
        way(both, 4, 0, 1, 0, 2, 0, 3, 4);
    }

    private static void promise36CriticalLength() {
        Check.due("criticalLength() without rooms", new DungeonBuilder().criticalLength(), NONE);
        Check.due("criticalLength() of one room", EditingTest.grid(1).criticalLength(), 0);
        Check.due("criticalLength() of rooms apart", EditingTest.grid(3).criticalLength(), 0);
        DungeonBuilder d = VisitTest.locked();
        Check.due("criticalLength()", d.criticalLength(), 6);
        d.setKey(2, 1);
        Check.due("criticalLength() with both keys", d.criticalLength(), 7);
        d.setKey(4, -1);
        Check.due("criticalLength() without the first key", d.criticalLength(), 2);
    }

    private static void anewAfterAChange() {
        DungeonBuilder d = EditingTest.grid(1);
        way(d, 0, 0);
        d.addRoom(4, 0, 2, 2);
        d.addCorridor(0, 1);
        Check.due("walkRoom(1, 1)", d.walkRoom(1, 1), 1);
        d.removeCorridor(0);
        Check.due("criticalLength()", d.criticalLength(), 0);
        d.addCorridor(0, 1);
        Check.due("walkLength(1)", d.walkLength(1), 1);
        d.setEntrance(1);
        Check.due("walkRoom(1, 0)", d.walkRoom(1, 0), 1);
    }

    /** There are very many walks here, most of which go round and round. */
    private static void whereMuchIsConnected() {
        DungeonBuilder d = EditingTest.grid(11);
        for (int a = 0; a < 6; a++) {
            for (int b = a + 1; b < 6; b++) {
                d.addCorridor(a, b);
            }
        }
        for (int room = 5; room < 10; room++) {
            d.addCorridor(room, room + 1);
        }
        way(d, 10, 0, 5, 6, 7, 8, 9, 10);
        for (int color = 0; color < 5; color++) {
            d.setKey(color, color);
            d.setLock(15 + color, color);
        }
        way(d, 10, 0, 1, 2, 3, 4, 5, 6, 7, 8, 9, 10);
        Check.due("needed(10)", d.needed(10), 31);
        Check.due("criticalLength()", d.criticalLength(), 10);
        DungeonBuilder full = EditingTest.full();
        Check.due("criticalLength() where all is full", full.criticalLength(), 1);
        full.setKey(11, 5);
        full.setLock(0, 5);
        full.setLock(11, 5);
        way(full, 2, 0, 2);
        way(full, 1, 0, 3, 1);
    }
}
