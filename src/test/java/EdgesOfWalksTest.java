/** The edges of what the document says of walks and of what they need: promises 32 to 36. */
public final class EdgesOfWalksTest {
    private static final int NO_SUCH_ELEMENT = -101;
    private static final int BAD_VALUE = -102;
    private static final int NONE = -104;
    private static final int MIN = Integer.MIN_VALUE;
    private static final int MAX = Integer.MAX_VALUE;

    public static void main(String[] args) {
        Check.words("needed: NO_SUCH_ELEMENT (checked first)", EdgesOfWalksTest::neededNoSuchRoom);
        Check.words("needed: NONE if the room is not visited", EdgesOfWalksTest::neededNotVisited);
        Check.words("Returns the colors without which a room cannot be reached: none", EdgesOfWalksTest::neededNone);
        Check.words("Returns the colors without which a room cannot be reached: each one and all",
                EdgesOfWalksTest::neededColors);
        Check.words("if all keys of this color are taken away", EdgesOfWalksTest::neededAllKeys);
        Check.words("missing: NO_SUCH_ELEMENT (checked first)", EdgesOfWalksTest::missingNoSuchRoom);
        Check.words("missing: NONE if the room is visited", EdgesOfWalksTest::missingVisited);
        Check.words("those for which it would be visited: none", EdgesOfWalksTest::missingNone);
        Check.words("those for which it would be visited: each one and all", EdgesOfWalksTest::missingColors);
        Check.words("if the locks of this color were taken away: all of them", EdgesOfWalksTest::missingAllLocks);
        Check.words("walkLength: NO_SUCH_ELEMENT (checked first)", EdgesOfWalksTest::lengthNoSuchRoom);
        Check.words("walkLength: NONE if there is no walk", EdgesOfWalksTest::lengthNone);
        Check.words("A walk begins in the entrance: a walk of no steps", EdgesOfWalksTest::lengthZero);
        Check.words("Returns the number of steps of the walk to a room, of many steps", EdgesOfWalksTest::lengths);
        Check.words("one of the rooms of the walk up to there, including the present one, has a key",
                EdgesOfWalksTest::includingThePresentOne);
        Check.words("the rooms of the walk up to there, and no others", EdgesOfWalksTest::noOthers);
        Check.words("The walk to a room is the shortest one that ends in it", EdgesOfWalksTest::shortest);
        Check.words("the one whose sequence of rooms is lexicographically least",
                EdgesOfWalksTest::lexicographicallyLeast);
        Check.words("the first room that differs decides", EdgesOfWalksTest::firstThatDiffers);
        Check.words("walkRoom: NO_SUCH_ELEMENT (checked first)", EdgesOfWalksTest::roomNoSuchRoom);
        Check.words("walkRoom: NONE if there is no walk (checked second)", EdgesOfWalksTest::roomNone);
        Check.words("walkRoom: BAD_VALUE if the walk has no such step", EdgesOfWalksTest::roomBadStep);
        Check.words("the number of steps up to there, from 0", EdgesOfWalksTest::roomSteps);
        Check.words("criticalLength: NONE if there are no rooms", EdgesOfWalksTest::criticalNone);
        Check.words("Returns the greatest number of steps of a walk to a room that has one", EdgesOfWalksTest::critical);
        Check.words("walks that collect keys of all colors", EdgesOfWalksTest::allKeys);
        Check.end();
    }

    private static void way(DungeonBuilder d, int room, int... due) {
        Check.due("walkLength(" + room + ")", d.walkLength(room), due.length - 1);
        Check.due("walkRoom(" + room + ", -1)", d.walkRoom(room, -1), BAD_VALUE);
        for (int step = 0; step < due.length; step++) {
            Check.due("walkRoom(" + room + ", " + step + ")", d.walkRoom(room, step), due[step]);
        }
        Check.due("walkRoom(" + room + ", " + due.length + ")", d.walkRoom(room, due.length), BAD_VALUE);
    }

    private static void neededNoSuchRoom() {
        for (int room : new int[] {-1, 5, 12, 32, 33, MIN, MAX}) {
            Twins.unchanged("needed(" + room + ")", Makers::rich, d -> d.needed(room), NO_SUCH_ELEMENT);
        }
        Check.due("needed(0) without rooms", new DungeonBuilder().needed(0), NO_SUCH_ELEMENT);
        Check.due("needed(12) of 12", Makers.line(12).needed(12), NO_SUCH_ELEMENT);
    }

    private static void neededNotVisited() {
        Twins.unchanged("needed(1) apart", () -> Makers.grid(2), d -> d.needed(1), NONE);
        Twins.unchanged("needed(1) behind a lock", Makers.then(() -> Makers.line(2), d -> d.setLock(0, 5)),
                d -> d.needed(1), NONE);
        DungeonBuilder d = Makers.line(12);
        d.setLock(10, 0);
        Check.due("needed(10)", d.needed(10), 0);
        Check.due("needed(11)", d.needed(11), NONE);
    }

    private static void neededNone() {
        Check.due("needed(0) of the only room", Makers.grid(1).needed(0), 0);
        DungeonBuilder d = Makers.line(12);
        for (int room = 0; room < 12; room++) {
            d.setKey(room, room % 6);
        }
        Check.row("needed without locks", d::needed, 0, 0, 0, 0, 0, 0, 0, 0, 0, 0, 0, 0);
        d.setEntrance(11);
        d.setLock(0, 2);
        Check.due("needed(11) of the entrance", d.needed(11), 0);
        Check.due("needed(1) before the lock", d.needed(1), 0);
        Check.due("needed(0) behind it", d.needed(0), 4);
    }

    private static void neededColors() {
        for (int color = 0; color <= 5; color++) {
            DungeonBuilder d = Makers.line(3);
            d.setLock(1, color);
            d.setKey(0, color);
            Check.due("needed(1)", d.needed(1), 0);
            Check.due("needed(2)", d.needed(2), 1 << color);
        }
        DungeonBuilder all = Makers.line(12);
        for (int color = 0; color <= 5; color++) {
            all.setKey(color, color);
            all.setLock(color, color);
        }
        Check.row("needed on a line", all::needed, 0, 1, 3, 7, 15, 31, 63, 63, 63, 63, 63, 63);
    }

    private static void neededAllKeys() {
        DungeonBuilder d = Makers.line(3);
        d.setLock(1, 3);
        d.setKey(0, 3);
        d.setKey(1, 3);
        d.setKey(2, 3);
        Check.due("needed(2) with several keys", d.needed(2), 8);
        DungeonBuilder ways = Makers.grid(4, 0, 1, 0, 2, 1, 3, 2, 3);
        ways.setKey(0, 0);
        ways.setKey(1, 1);
        ways.setLock(2, 0);
        ways.setLock(3, 1);
        Check.due("needed(3) on two ways", ways.needed(3), 0);
        ways.setLock(3, 0);
        Check.due("needed(3) on two ways of one color", ways.needed(3), 1);
        // The key of the second lock lies behind the first one.
        DungeonBuilder chain = Makers.grid(4, 0, 1, 0, 2, 2, 3);
        chain.setKey(0, 4);
        chain.setLock(0, 4);
        chain.setKey(1, 5);
        chain.setLock(2, 5);
        Check.due("needed(3) through another key", chain.needed(3), 16 + 32);
    }

    private static void missingNoSuchRoom() {
        for (int room : new int[] {-1, 5, 12, 32, 33, MIN, MAX}) {
            Twins.unchanged("missing(" + room + ")", Makers::rich, d -> d.missing(room), NO_SUCH_ELEMENT);
        }
        Check.due("missing(0) without rooms", new DungeonBuilder().missing(0), NO_SUCH_ELEMENT);
        Check.due("missing(12) of 12", Makers.line(12).missing(12), NO_SUCH_ELEMENT);
    }

    private static void missingVisited() {
        Twins.unchanged("missing(0) of the entrance", () -> Makers.grid(2), d -> d.missing(0), NONE);
        Twins.unchanged("missing(1)", () -> Makers.line(2), d -> d.missing(1), NONE);
        DungeonBuilder d = Makers.line(12);
        d.setLock(10, 5);
        Check.due("missing(10)", d.missing(10), NONE);
        Check.due("missing(11)", d.missing(11), 32);
        d.setKey(0, 5);
        Check.due("missing(11) with the key", d.missing(11), NONE);
        for (int color = 0; color <= 5; color++) {
            DungeonBuilder open = Makers.line(3);
            open.setLock(0, color);
            open.setKey(0, color);
            Check.due("missing(1) with the key " + color, open.missing(1), NONE);
            open.setLock(1, (color + 1) % 6);
            Check.due("missing(2) behind the other lock", open.missing(2), 1 << (color + 1) % 6);
        }
    }

    private static void missingNone() {
        Check.due("missing(1) apart", Makers.grid(2).missing(1), 0);
        DungeonBuilder d = Makers.line(3);
        d.setLock(0, 0);
        d.setLock(1, 1);
        Check.due("missing(1) behind a lock", d.missing(1), 1);
        Check.due("missing(2) behind two colors", d.missing(2), 0);
    }

    private static void missingColors() {
        for (int color = 0; color <= 5; color++) {
            DungeonBuilder d = Makers.line(2);
            d.setLock(0, color);
            d.setKey(0, (color + 1) % 6);
            Check.due("missing(1)", d.missing(1), 1 << color);
        }
        DungeonBuilder all = Makers.grid(8, 0, 1, 0, 2, 0, 3, 0, 4, 0, 5, 0, 6, 1, 7, 2, 7, 3, 7, 4, 7, 5, 7, 6, 7);
        for (int color = 0; color <= 5; color++) {
            all.setLock(6 + color, color);
        }
        Check.due("missing(7) on six ways", all.missing(7), 63);
    }

    private static void missingAllLocks() {
        DungeonBuilder d = Makers.line(12);
        for (int c = 0; c < 11; c++) {
            d.setLock(c, 4);
        }
        Check.due("missing(11) behind eleven locks", d.missing(11), 16);
        d.setLock(5, 3);
        Check.due("missing(11) behind two colors", d.missing(11), 0);
        Check.due("missing(5) before the other color", d.missing(5), 16);
        d.setKey(5, 3);
        Check.due("missing(11) with a key behind the first color", d.missing(11), 16);
    }

    private static void lengthNoSuchRoom() {
        for (int room : new int[] {-1, 5, 12, MIN, MAX}) {
            Twins.unchanged("walkLength(" + room + ")", Makers::rich, d -> d.walkLength(room), NO_SUCH_ELEMENT);
        }
        Check.due("walkLength(0) without rooms", new DungeonBuilder().walkLength(0), NO_SUCH_ELEMENT);
        Check.due("walkLength(12) of 12", Makers.line(12).walkLength(12), NO_SUCH_ELEMENT);
    }

    private static void lengthNone() {
        Twins.unchanged("walkLength(1) apart", () -> Makers.grid(2), d -> d.walkLength(1), NONE);
        Twins.unchanged("walkLength(1) behind a lock", Makers.then(() -> Makers.line(2), d -> d.setLock(0, 5)),
                d -> d.walkLength(1), NONE);
        DungeonBuilder d = Makers.line(12);
        d.setLock(10, 0);
        Check.due("walkLength(10)", d.walkLength(10), 10);
        Check.due("walkLength(11)", d.walkLength(11), NONE);
        d.setKey(11, 0);
        Check.due("walkLength(11) with the key behind the lock", d.walkLength(11), NONE);
        DungeonBuilder later = Makers.line(12);
        Check.due("walkLength(11) while there is a walk", later.walkLength(11), 11);
        for (int c = 10; c >= 0; c--) {
            later.setLock(c, 2);
            Check.due("walkLength(" + (c + 1) + ") without one", later.walkLength(c + 1), NONE);
            Check.due("walkLength(11) without one", later.walkLength(11), NONE);
            Check.due("criticalLength()", later.criticalLength(), c);
        }
        for (int c = 0; c < 11; c++) {
            DungeonBuilder locked = Makers.line(12);
            Check.due("walkLength(11) while there is a walk", locked.walkLength(11), 11);
            locked.setLock(c, 2);
            for (int room = 0; room < 12; room++) {
                Check.due("walkLength(" + room + ") with lock " + c, locked.walkLength(room), room <= c ? room : NONE);
            }
        }
    }

    private static void lengthZero() {
        for (int entrance = 0; entrance < 12; entrance++) {
            DungeonBuilder d = Makers.line(12);
            d.setEntrance(entrance);
            way(d, entrance, entrance);
            Check.due("walkLength(0)", d.walkLength(0), entrance);
            Check.due("walkLength(11)", d.walkLength(11), 11 - entrance);
        }
        Check.due("walkLength(0) of the only room", Makers.grid(1).walkLength(0), 0);
    }

    private static void lengths() {
        Check.row("walkLength on a line", Makers.line(12)::walkLength, 0, 1, 2, 3, 4, 5, 6, 7, 8, 9, 10, 11);
        // For the key at the one end and back to the lock before the other one.
        DungeonBuilder d = Makers.line(12);
        d.setEntrance(1);
        d.setKey(11, 0);
        d.setLock(0, 0);
        Check.due("walkLength(0) over 11", d.walkLength(0), 10 + 11);
        Check.due("walkRoom(0, 10)", d.walkRoom(0, 10), 11);
        Check.due("walkRoom(0, 20)", d.walkRoom(0, 20), 1);
        Check.due("walkRoom(0, 21)", d.walkRoom(0, 21), 0);
        Check.due("walkRoom(0, 22)", d.walkRoom(0, 22), BAD_VALUE);
    }

    private static void includingThePresentOne() {
        DungeonBuilder d = Makers.line(3);
        d.setLock(1, 3);
        d.setKey(1, 3);
        way(d, 2, 0, 1, 2);
        DungeonBuilder entrance = Makers.line(2);
        entrance.setLock(0, 0);
        entrance.setKey(0, 0);
        way(entrance, 1, 0, 1);
        DungeonBuilder target = Makers.line(2);
        target.setLock(0, 0);
        target.setKey(1, 0);
        Check.due("walkLength(1) with the key in it", target.walkLength(1), NONE);
    }

    /** The key lies beside the way: the walk goes there and back, also if a shorter way past it is open. */
    private static void noOthers() {
        DungeonBuilder d = Makers.grid(4, 0, 1, 1, 2, 1, 3);
        d.setLock(1, 2);
        d.setKey(3, 2);
        way(d, 2, 0, 1, 3, 1, 2);
        way(d, 3, 0, 1, 3);
        way(d, 1, 0, 1);
    }

    private static void shortest() {
        // Around in four steps, or for the key in one step, back and through the lock: three.
        DungeonBuilder d = Makers.grid(6, 0, 5, 0, 1, 1, 2, 2, 3, 3, 4, 0, 4);
        d.setKey(5, 0);
        d.setLock(5, 0);
        way(d, 4, 0, 5, 0, 4);
        d.setKey(5, -1);
        way(d, 4, 0, 1, 2, 3, 4);
        d.setKey(0, 0);
        way(d, 4, 0, 4);
    }

    private static void lexicographicallyLeast() {
        way(Makers.grid(4, 2, 3, 0, 2, 1, 3, 0, 1), 3, 0, 1, 3);
        way(Makers.grid(4, 0, 1, 1, 3, 0, 2, 2, 3), 3, 0, 1, 3);
        DungeonBuilder from3 = Makers.grid(4, 2, 3, 0, 2, 1, 3, 0, 1);
        from3.setEntrance(3);
        way(from3, 0, 3, 1, 0);
        // Two keys of the color, as near as each other.
        DungeonBuilder keys = Makers.grid(4, 0, 3, 0, 2, 0, 1);
        keys.setKey(2, 1);
        keys.setKey(3, 1);
        keys.setLock(2, 1);
        way(keys, 1, 0, 2, 0, 1);
        // Three steps around, three with the key: 0 2 0 4 is less than 0 2 3 4, and 0 1 3 4 less than both.
        DungeonBuilder around = Makers.grid(5, 0, 2, 2, 3, 3, 4, 0, 4);
        around.setKey(2, 5);
        around.setLock(3, 5);
        way(around, 4, 0, 2, 0, 4);
        around.addCorridor(0, 1);
        around.addCorridor(1, 3);
        way(around, 4, 0, 1, 3, 4);
    }

    private static void firstThatDiffers() {
        way(Makers.grid(6, 0, 1, 1, 4, 4, 5, 0, 2, 2, 3, 3, 5), 5, 0, 1, 4, 5);
        way(Makers.grid(6, 0, 2, 2, 1, 1, 5, 0, 3, 3, 4, 4, 5), 5, 0, 2, 1, 5);
        way(Makers.grid(7, 0, 1, 1, 5, 5, 4, 4, 6, 0, 2, 2, 3, 3, 4), 6, 0, 1, 5, 4, 6);
    }

    private static void roomNoSuchRoom() {
        for (int room : new int[] {-1, 5, 12, MIN, MAX}) {
            for (int step : new int[] {-1, 0, 1, 99}) {
                Twins.unchanged("walkRoom(" + room + ", " + step + ")", Makers::rich, d -> d.walkRoom(room, step),
                        NO_SUCH_ELEMENT);
            }
        }
        Check.due("walkRoom(0, 0) without rooms", new DungeonBuilder().walkRoom(0, 0), NO_SUCH_ELEMENT);
        Check.due("walkRoom(12, 0) of 12", Makers.line(12).walkRoom(12, 0), NO_SUCH_ELEMENT);
    }

    private static void roomNone() {
        for (int step : new int[] {-1, 0, 1, 99, MIN, MAX}) {
            Twins.unchanged("walkRoom(1, " + step + ") apart", () -> Makers.grid(2), d -> d.walkRoom(1, step), NONE);
            Twins.unchanged("walkRoom(1, " + step + ") behind a lock", Makers.then(() -> Makers.line(2),
                    d -> d.setLock(0, 5)),
                    d -> d.walkRoom(1, step), NONE);
        }
    }

    private static void roomBadStep() {
        for (int step : new int[] {-1, 3, 4, 99, MIN, MAX}) {
            Twins.unchanged("walkRoom(2, " + step + ")", () -> Makers.line(3), d -> d.walkRoom(2, step), BAD_VALUE);
        }
        for (int step : new int[] {-1, 1, MIN, MAX}) {
            Twins.unchanged("walkRoom(0, " + step + ")", () -> Makers.line(3), d -> d.walkRoom(0, step), BAD_VALUE);
        }
    }

    private static void roomSteps() {
        way(Makers.line(12), 11, 0, 1, 2, 3, 4, 5, 6, 7, 8, 9, 10, 11);
        DungeonBuilder back = Makers.line(12);
        back.setEntrance(11);
        way(back, 0, 11, 10, 9, 8, 7, 6, 5, 4, 3, 2, 1, 0);
        way(back, 11, 11);
        way(Makers.bareFull(), 11, 0, 11);
        DungeonBuilder full = Makers.bareFull();
        full.setEntrance(11);
        way(full, 10, 11, 0, 10);
    }

    private static void criticalNone() {
        Twins.unchanged("criticalLength() without rooms", Makers::emptyWithText, DungeonBuilder::criticalLength, NONE);
        DungeonBuilder d = Makers.grid(1);
        d.removeRoom(0);
        Check.due("criticalLength() after removing the only room", d.criticalLength(), NONE);
    }

    private static void critical() {
        Check.due("criticalLength() of one room", Makers.grid(1).criticalLength(), 0);
        Check.due("criticalLength() of rooms apart", Makers.grid(12).criticalLength(), 0);
        for (int rooms = 1; rooms <= 12; rooms++) {
            Check.due("criticalLength() on a line", Makers.line(rooms).criticalLength(), rooms - 1);
        }
        DungeonBuilder d = Makers.line(12);
        d.setEntrance(1);
        d.setLock(0, 0);
        Check.due("criticalLength() with a room that has no walk", d.criticalLength(), 10);
        d.setKey(11, 0);
        Check.due("criticalLength() when it has one", d.criticalLength(), 21);
        Check.due("criticalLength() where all is full", Makers.bareFull().criticalLength(), 1);
    }

    /**
     * Six arms of room 0 hold the keys of six colors, which open each other in turn; behind the last lock is room 7. Each
     * key is fetched in two steps.
     */
    private static void allKeys() {
        DungeonBuilder d = Makers.star(8);
        for (int color = 0; color <= 5; color++) {
            d.setKey(6 - color, color);
            d.setLock(color == 5 ? 6 : 4 - color, color);
        }
        way(d, 7, 0, 6, 0, 5, 0, 4, 0, 3, 0, 2, 0, 1, 0, 7);
        Check.due("needed(7)", d.needed(7), 63);
        Check.due("keysFound()", d.keysFound(), 63);
        // Without an order of their own, the keys are fetched from the lowest room on.
        DungeonBuilder free = Makers.grid(12, 0, 1, 0, 2, 0, 3, 0, 4, 0, 5, 0, 6, 0, 7, 7, 8, 8, 9, 9, 10, 10, 11);
        for (int color = 0; color <= 5; color++) {
            free.setKey(6 - color, color);
        }
        for (int color = 0; color <= 4; color++) {
            free.setLock(6 + color, color);
        }
        way(free, 11, 0, 2, 0, 3, 0, 4, 0, 5, 0, 6, 0, 7, 8, 9, 10, 11);
        Check.due("needed(11)", free.needed(11), 31);
    }
}
