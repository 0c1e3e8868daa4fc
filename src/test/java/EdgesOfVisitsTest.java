/** The edges of what the document says of depths, difficulties and visits: promises 25 to 31 and 37 to 40. */
public final class EdgesOfVisitsTest {
    private static final int NO_SUCH_ELEMENT = -101;
    private static final int NONE = -104;
    private static final int MIN = Integer.MIN_VALUE;
    private static final int MAX = Integer.MAX_VALUE;

    public static void main(String[] args) {
        Check.words("The depth of a room, 0 for the entrance, up to 11", EdgesOfVisitsTest::depths);
        Check.words("the depth, where locks do not matter", EdgesOfVisitsTest::depthsWithLocks);
        Check.words("and -1 if there is no way", EdgesOfVisitsTest::depthWithoutWay);
        Check.words("depth: NO_SUCH_ELEMENT", EdgesOfVisitsTest::noSuchDepth);
        Check.words("with curve 0, the difficulty is 10 times its depth", EdgesOfVisitsTest::curveZero);
        Check.words("with curve 1, the square of its depth plus cells divided by 4, rounded down",
                EdgesOfVisitsTest::curveOne);
        Check.words("With curve 1, the number of cells alone is divided by 4", EdgesOfVisitsTest::cellsAlone);
        Check.words("with curve 2, 100 minus 10 times the number of its corridors, plus its depth",
                EdgesOfVisitsTest::curveTwo);
        Check.words("A room with depth -1 has the difficulty 500", EdgesOfVisitsTest::lostRooms);
        Check.words("difficulty: NO_SUCH_ELEMENT", EdgesOfVisitsTest::noSuchDifficulty);
        Check.words("Returns how many rooms are visited, 0 to 12", EdgesOfVisitsTest::visits);
        Check.words("the entrance is visited first", EdgesOfVisitsTest::entranceFirst);
        Check.words("visit: its position in the order of the visit, from 0", EdgesOfVisitsTest::positions);
        Check.words("visit: NO_SUCH_ELEMENT", EdgesOfVisitsTest::noSuchVisit);
        Check.words("the one with the least difficulty", EdgesOfVisitsTest::leastDifficulty);
        Check.words("of several the lowest one", EdgesOfVisitsTest::lowestOfSeveral);
        Check.words("or a lock with a color of which a visited room has a key", EdgesOfVisitsTest::keysOfVisitedRooms);
        Check.words("A key that is found is kept and opens all locks of its color",
                EdgesOfVisitsTest::allLocksOfItsColor);
        Check.words("visitedAt: NONE if it is not visited", EdgesOfVisitsTest::notVisited);
        Check.words("visitedAt: NO_SUCH_ELEMENT (checked first)", EdgesOfVisitsTest::noSuchVisitedAt);
        Check.words("isSolvable: Returns 1 if it can, 0 otherwise", EdgesOfVisitsTest::solvable);
        Check.words("isSolvable: NONE if there are no rooms", EdgesOfVisitsTest::solvableWithoutRooms);
        Check.words("Returns the colors of the keys in the visited rooms: each one, none and all",
                EdgesOfVisitsTest::keysFound);
        Check.words("tension: its position in the order of the visit, from 1", EdgesOfVisitsTest::tensions);
        Check.words("tension: NO_SUCH_ELEMENT if no room is visited at this position, or it is less than 1",
                EdgesOfVisitsTest::noSuchTension);
        Check.words("Returns the difference plus 1000, the least and the greatest", EdgesOfVisitsTest::greatTensions);
        Check.words("Returns how often a room has a lower difficulty than the one before it", EdgesOfVisitsTest::drops);
        Check.words("the sum, over all visited rooms but the first one", EdgesOfVisitsTest::backtracking);
        Check.words("the least number of corridors, where locks do not matter", EdgesOfVisitsTest::backtrackingWithLocks);
        Check.words("averageBits: Long.MIN_VALUE if there are no rooms", EdgesOfVisitsTest::averageWithoutRooms);
        Check.words("the bits of the double, as by Double.doubleToLongBits", EdgesOfVisitsTest::averages);
        Check.words("the average difficulty of all rooms, also of those that are not visited",
                EdgesOfVisitsTest::averageOfAllRooms);
        Check.end();
    }

    private static void depths() {
        for (int rooms = 1; rooms <= 12; rooms++) {
            DungeonBuilder d = Makers.line(rooms);
            for (int room = 0; room < rooms; room++) {
                Check.due("depth(" + room + ") of " + rooms, d.depth(room), room);
            }
            d.setEntrance(rooms - 1);
            for (int room = 0; room < rooms; room++) {
                Check.due("depth(" + room + ") from the end", d.depth(room), rooms - 1 - room);
            }
        }
        DungeonBuilder ring = Makers.line(12);
        ring.addCorridor(0, 11);
        Check.row("depth on a ring", ring::depth, 0, 1, 2, 3, 4, 5, 6, 5, 4, 3, 2, 1);
        Check.row("depth where all is full", Makers.bareFull()::depth, 0, 1, 1, 1, 1, 1, 1, 1, 1, 1, 1, 1);
    }

    private static void depthsWithLocks() {
        DungeonBuilder d = Makers.line(12);
        for (int c = 0; c < 11; c++) {
            d.setLock(c, c % 6);
        }
        Check.row("depth", d::depth, 0, 1, 2, 3, 4, 5, 6, 7, 8, 9, 10, 11);
    }

    private static void depthWithoutWay() {
        Check.row("depth without corridors", Makers.grid(3)::depth, 0, -1, -1);
        DungeonBuilder d = Makers.grid(4, 0, 1, 2, 3);
        Check.row("depth", d::depth, 0, 1, -1, -1);
        d.setEntrance(3);
        Check.row("depth from the other side", d::depth, -1, -1, 1, 0);
        Check.row("depth of rooms that touch", Check.made("r0,0,2,2;r2,0,2,2")::depth, 0, -1);
    }

    private static void noSuchDepth() {
        for (int room : new int[] {-1, 5, 12, MIN, MAX}) {
            Twins.unchanged("depth(" + room + ")", Makers::rich, d -> d.depth(room), NO_SUCH_ELEMENT);
        }
        Check.due("depth(0) without rooms", new DungeonBuilder().depth(0), NO_SUCH_ELEMENT);
        Check.due("depth(12) of 12", Makers.line(12).depth(12), NO_SUCH_ELEMENT);
    }

    private static void curveZero() {
        Check.row("difficulty", Makers.line(12)::difficulty, 0, 10, 20, 30, 40, 50, 60, 70, 80, 90, 100, 110);
    }

    private static void curveOne() {
        DungeonBuilder line = Makers.line(12);
        line.setCurve(1);
        Check.row("difficulty", line::difficulty, 1, 2, 5, 10, 17, 26, 37, 50, 65, 82, 101, 122);
        for (int w = 2; w <= 12; w++) {
            for (int h = 2; h <= 12; h++) {
                DungeonBuilder d = new DungeonBuilder();
                d.addRoom(0, 0, w, h);
                d.setCurve(1);
                Check.due("difficulty(0) of " + w + " by " + h, d.difficulty(0), (w * h - w * h % 4) / 4);
            }
        }
    }

    /** 9 and 1 would make 10, 4 and 15 would make 19: by themselves 9 and 15 cells make 2 and 3. */
    private static void cellsAlone() {
        DungeonBuilder d = Check.made("r0,0,3,3;r4,0,3,3;r8,0,3,5;c0,1;c1,2");
        d.setCurve(1);
        Check.row("difficulty", d::difficulty, 2, 1 + 2, 4 + 3);
        DungeonBuilder far = Check.made("r0,0,2,3;r4,0,2,3;r8,0,2,3;r12,0,2,3;c0,1;c1,2;c2,3");
        far.setCurve(1);
        Check.row("difficulty", far::difficulty, 1, 1 + 1, 4 + 1, 9 + 1);
    }

    private static void curveTwo() {
        for (int rooms = 1; rooms <= 12; rooms++) {
            DungeonBuilder d = Makers.star(rooms);
            d.setCurve(2);
            Check.due("difficulty(0) with " + (rooms - 1) + " corridors", d.difficulty(0), 100 - 10 * (rooms - 1));
            Check.due("the last one", d.difficulty(rooms - 1), rooms == 1 ? 100 : 91);
        }
        DungeonBuilder line = Makers.line(12);
        line.setCurve(2);
        Check.row("difficulty", line::difficulty, 90, 81, 82, 83, 84, 85, 86, 87, 88, 89, 90, 101);
        DungeonBuilder full = Makers.bareFull();
        full.setCurve(2);
        Check.row("difficulty", full::difficulty, -10, 1, 81, 81, 81, 81, 81, 81, 81, 81, 81, 91);
        full.setEntrance(11);
        Check.row("difficulty", full::difficulty, -9, 2, 82, 82, 82, 82, 82, 82, 82, 82, 82, 90);
    }

    private static void lostRooms() {
        for (int curve = 0; curve <= 2; curve++) {
            DungeonBuilder d = Check.made("r0,0,2,2;r4,0,2,2;r12,0,12,12;r0,12,2,2;c0,1;c2,3");
            d.setCurve(curve);
            Check.due("difficulty(2) by " + curve, d.difficulty(2), 500);
            Check.due("difficulty(3) by " + curve, d.difficulty(3), 500);
            d.addCorridor(1, 2);
            Check.due("difficulty(2) by " + curve, d.difficulty(2), new int[] {20, 4 + 36, 82}[curve]);
            Check.due("difficulty(3) by " + curve, d.difficulty(3), new int[] {30, 9 + 1, 93}[curve]);
        }
    }

    private static void noSuchDifficulty() {
        for (int room : new int[] {-1, 5, 12, MIN, MAX}) {
            Twins.unchanged("difficulty(" + room + ")", Makers::rich, d -> d.difficulty(room), NO_SUCH_ELEMENT);
        }
        Check.due("difficulty(0) without rooms", new DungeonBuilder().difficulty(0), NO_SUCH_ELEMENT);
        Check.due("difficulty(12) of 12", Makers.line(12).difficulty(12), NO_SUCH_ELEMENT);
    }

    private static void visits() {
        Check.due("visits() without rooms", new DungeonBuilder().visits(), 0);
        for (int rooms = 1; rooms <= 12; rooms++) {
            Check.due("visits() of rooms apart", Makers.grid(rooms).visits(), 1);
            Check.due("visits() on a line", Makers.line(rooms).visits(), rooms);
            DungeonBuilder d = Makers.line(12);
            d.setLock(rooms - 1 == 11 ? 10 : rooms - 1, 0);
            Check.due("visits() up to a lock", d.visits(), Math.min(rooms, 11));
        }
        DungeonBuilder d = Makers.line(2);
        d.removeRoom(0);
        d.removeRoom(0);
        Check.due("visits() after removing all", d.visits(), 0);
        for (int entrance = 0; entrance < 12; entrance++) {
            DungeonBuilder apart = Makers.grid(12);
            apart.setEntrance(entrance);
            Check.due("visits() of rooms apart from " + entrance, apart.visits(), 1);
            DungeonBuilder locked = Makers.line(12);
            locked.setEntrance(entrance);
            locked.setLock(0, 0);
            Check.due("visits() without room 0, or of it alone", locked.visits(), entrance == 0 ? 1 : 11);
        }
    }

    private static void entranceFirst() {
        for (int entrance = 0; entrance < 12; entrance++) {
            DungeonBuilder d = Makers.line(12);
            d.setCurve(2);
            d.setEntrance(entrance);
            Check.due("visit(0)", d.visit(0), entrance);
            Check.due("visitedAt", d.visitedAt(entrance), 0);
        }
    }

    private static void positions() {
        DungeonBuilder d = Makers.line(12);
        d.setEntrance(11);
        Check.row("visit", d::visit, 11, 10, 9, 8, 7, 6, 5, 4, 3, 2, 1, 0, NO_SUCH_ELEMENT);
        Check.row("visitedAt", d::visitedAt, 11, 10, 9, 8, 7, 6, 5, 4, 3, 2, 1, 0, NO_SUCH_ELEMENT);
        Check.row("visit", Makers.grid(3)::visit, 0, NO_SUCH_ELEMENT, NO_SUCH_ELEMENT, NO_SUCH_ELEMENT);
    }

    private static void noSuchVisit() {
        for (int index : new int[] {-1, 3, 4, 5, 12, MIN, MAX}) {
            Twins.unchanged("visit(" + index + ")", Makers.then(Makers::rich, d -> d.setLock(2, 1)), d -> d.visit(index),
                    NO_SUCH_ELEMENT);
        }
        Check.due("visit(0) without rooms", new DungeonBuilder().visit(0), NO_SUCH_ELEMENT);
        Check.due("visit(-1) without rooms", new DungeonBuilder().visit(-1), NO_SUCH_ELEMENT);
        Check.due("visit(12) of 12", Makers.line(12).visit(12), NO_SUCH_ELEMENT);
    }

    private static void leastDifficulty() {
        // By curve 1, the rooms 1, 2 and 3 have 1 + 36, 1 + 9 and 1 + 1, and 4 behind 3 has 4 + 5.
        DungeonBuilder d = Check.made("r0,0,2,2;r12,4,12,12;r4,0,6,6;r0,8,2,2;r3,8,5,4", "c0,1;c0,2;c0,3;c3,4");
        Check.row("visit by curve 0", d::visit, 0, 1, 2, 3, 4);
        d.setCurve(1);
        Check.row("visit by curve 1", d::visit, 0, 3, 4, 2, 1);
        // By one less: 10 and 9.
        DungeonBuilder near = Check.made("r0,0,2,2;r4,0,6,6;r12,0,7,5;c0,1;c0,2");
        near.setCurve(1);
        Check.row("visit of 10 and 9", near::visit, 0, 2, 1);
        DungeonBuilder less = Makers.grid(4, 0, 1, 0, 2, 2, 3);
        less.setCurve(2);
        Check.row("visit of 91 and 81", less::visit, 0, 2, 1, 3);
    }

    private static void lowestOfSeveral() {
        Check.row("visit", Makers.grid(5, 0, 4, 0, 3, 0, 2, 0, 1)::visit, 0, 1, 2, 3, 4);
        DungeonBuilder d = Makers.grid(5, 4, 3, 4, 2, 4, 1, 4, 0);
        d.setEntrance(4);
        Check.row("visit from the last room", d::visit, 4, 0, 1, 2, 3);
        Check.row("visit where all is full", Makers.bareFull()::visit, 0, 1, 2, 3, 4, 5, 6, 7, 8, 9, 10, 11);
        // By curve 1, both have the difficulty 10: 1 + 9 with 36 and with 39 cells.
        DungeonBuilder rounded = Check.made("r0,0,2,2;r4,0,3,12;r8,0,3,12;r12,0,6,6;c0,3;c0,2;c0,1");
        rounded.setCurve(1);
        Check.row("visit", rounded::visit, 0, 1, 2, 3);
    }

    private static void keysOfVisitedRooms() {
        for (int color = 0; color <= 5; color++) {
            DungeonBuilder d = Makers.line(3);
            d.setLock(1, color);
            Check.due("visits() without a key", d.visits(), 2);
            d.setKey(2, color);
            Check.due("visits() with the key behind the lock", d.visits(), 2);
            d.setKey(2, -1);
            d.setKey(1, color);
            Check.due("visits() with the key before the lock", d.visits(), 3);
            d.setKey(1, (color + 1) % 6);
            Check.due("visits() with another key", d.visits(), 2);
            d.setKey(0, color);
            Check.due("visits() with the key in the entrance", d.visits(), 3);
        }
    }

    private static void allLocksOfItsColor() {
        DungeonBuilder d = Makers.line(12);
        for (int c = 0; c < 11; c++) {
            d.setLock(c, 5);
        }
        Check.due("visits() without a key", d.visits(), 1);
        d.setKey(0, 5);
        Check.due("visits() with the key", d.visits(), 12);
        Check.due("walkLength(11) with the key", d.walkLength(11), 11);
    }

    private static void notVisited() {
        DungeonBuilder d = Makers.line(12);
        d.setLock(10, 0);
        Check.due("visitedAt(10)", d.visitedAt(10), 10);
        Check.due("visitedAt(11)", d.visitedAt(11), NONE);
        Twins.unchanged("visitedAt(1)", () -> Makers.grid(2), it -> it.visitedAt(1), NONE);
        DungeonBuilder later = Makers.line(12);
        Check.due("visitedAt(11) while it is", later.visitedAt(11), 11);
        for (int c = 10; c >= 0; c--) {
            later.setLock(c, 2);
            Check.due("visitedAt(" + (c + 1) + ") not any more", later.visitedAt(c + 1), NONE);
            Check.due("visit(" + (c + 1) + ") not any more", later.visit(c + 1), NO_SUCH_ELEMENT);
        }
    }

    private static void noSuchVisitedAt() {
        for (int room : new int[] {-1, 5, 12, MIN, MAX}) {
            Twins.unchanged("visitedAt(" + room + ")", Makers::rich, d -> d.visitedAt(room), NO_SUCH_ELEMENT);
        }
        Check.due("visitedAt(0) without rooms", new DungeonBuilder().visitedAt(0), NO_SUCH_ELEMENT);
        Check.due("visitedAt(12) of 12", Makers.line(12).visitedAt(12), NO_SUCH_ELEMENT);
    }

    private static void solvable() {
        Check.due("isSolvable() with one room", Makers.grid(1).isSolvable(), 1);
        Check.due("isSolvable() with two rooms apart", Makers.grid(2).isSolvable(), 0);
        DungeonBuilder d = Makers.line(12);
        Check.due("isSolvable() on a line", d.isSolvable(), 1);
        d.setLock(10, 3);
        Check.due("isSolvable() but for the last room", d.isSolvable(), 0);
        d.setKey(11, 3);
        Check.due("isSolvable() with the key in the last room", d.isSolvable(), 0);
        d.setKey(10, 3);
        Check.due("isSolvable() with the key before it", d.isSolvable(), 1);
    }

    private static void solvableWithoutRooms() {
        Twins.unchanged("isSolvable() without rooms", Makers::emptyWithText, DungeonBuilder::isSolvable, NONE);
        DungeonBuilder d = Makers.grid(1);
        d.removeRoom(0);
        Check.due("isSolvable() after removing the only room", d.isSolvable(), NONE);
    }

    private static void keysFound() {
        Check.due("keysFound() without rooms", new DungeonBuilder().keysFound(), 0);
        Check.due("keysFound() without keys", Makers.line(12).keysFound(), 0);
        for (int color = 0; color <= 5; color++) {
            DungeonBuilder d = Makers.grid(2);
            d.setKey(0, color);
            d.setKey(1, (color + 1) % 6);
            Check.due("keysFound()", d.keysFound(), 1 << color);
        }
        DungeonBuilder all = Makers.line(12);
        for (int room = 0; room < 12; room++) {
            all.setKey(room, room / 2);
        }
        Check.due("keysFound() of all, each twice", all.keysFound(), 63);
        all.setLock(9, 0);
        all.setLock(1, 5);
        Check.due("keysFound() before a lock", all.keysFound(), 1);
        all.setKey(0, 5);
        Check.due("keysFound() behind it", all.keysFound(), 63);
        for (int color = 0; color <= 5; color++) {
            DungeonBuilder closed = Makers.line(2);
            closed.setLock(0, color);
            closed.setKey(1, 5);
            Check.due("keysFound() before a lock of color " + color, closed.keysFound(), 0);
        }
    }

    private static void tensions() {
        DungeonBuilder d = Makers.line(12);
        Check.due("tension(0)", d.tension(0), NO_SUCH_ELEMENT);
        Check.due("tension(1)", d.tension(1), 1010);
        Check.due("tension(11)", d.tension(11), 1010);
        Check.due("tension(12)", d.tension(12), NO_SUCH_ELEMENT);
        Check.due("tension(1) of 0 and 0: there is none", Makers.grid(2).tension(1), NO_SUCH_ELEMENT);
        Check.due("tension(2) of 10 and 10", Makers.star(3).tension(2), 1000);
    }

    private static void noSuchTension() {
        for (int index : new int[] {-1, 0, 3, 4, 5, 12, MIN, MAX}) {
            Twins.unchanged("tension(" + index + ")", Makers.then(Makers::rich, d -> d.setLock(2, 1)),
                    d -> d.tension(index), NO_SUCH_ELEMENT);
        }
        for (int index : new int[] {-1, 0, 1, 2, MIN, MAX}) {
            Check.due("tension(" + index + ") without rooms", new DungeonBuilder().tension(index), NO_SUCH_ELEMENT);
            Check.due("tension(" + index + ") of one room", Makers.grid(1).tension(index), NO_SUCH_ELEMENT);
        }
    }

    private static void greatTensions() {
        // By curve 2, from 91 in the entrance to -9 with eleven corridors, and from there to 91 + 1.
        DungeonBuilder d = Makers.star(12);
        d.setCurve(2);
        d.setEntrance(11);
        Check.due("tension(1)", d.tension(1), 1000 - 90 + -9);
        Check.due("tension(2)", d.tension(2), 1000 + 92 + 9);
        Check.due("tension(3)", d.tension(3), 1000);
        // By curve 1, from 36 to 2 and from 2 to 36 + 1.
        DungeonBuilder large = Check.made("r0,0,12,12;r12,0,2,2;c0,1");
        large.setCurve(1);
        Check.due("tension(1) of 36 and 2", large.tension(1), 966);
        large.setEntrance(1);
        Check.due("tension(1) of 1 and 37", large.tension(1), 1036);
    }

    private static void drops() {
        Check.due("drops() without rooms", new DungeonBuilder().drops(), 0);
        Check.due("drops() of one room", Makers.grid(1).drops(), 0);
        Check.due("drops() where all rise", Makers.line(12).drops(), 0);
        Check.due("drops() where all are the same", Makers.star(12).drops(), 0);
        DungeonBuilder two = Check.made("r0,0,2,4;r4,0,2,2;c0,1");
        two.setCurve(1);
        Check.due("drops() of 2 and 2", two.drops(), 0);
        DungeonBuilder less = Check.made("r0,0,2,6;r4,0,2,2;c0,1");
        less.setCurve(1);
        Check.due("drops() of 3 and 2", less.drops(), 1);
        // By curve 1, 36, 1 + 16, 4 + 9, 9 + 1, all behind another.
        DungeonBuilder all = Check.made("r0,0,12,12;r12,0,8,8;r20,0,3,12;r12,12,2,2;c0,1;c1,2;c2,3");
        all.setCurve(1);
        Check.due("drops() where all fall", all.drops(), 3);
        DungeonBuilder behind = Check.made("r0,0,2,2;r4,0,12,12;r20,0,2,2;c0,1;c1,2");
        behind.setCurve(1);
        behind.setLock(1, 0);
        Check.due("drops() before a lock", behind.drops(), 0);
        behind.setKey(1, 0);
        Check.due("drops() behind it", behind.drops(), 1);
    }

    private static void backtracking() {
        Check.due("backtracking() without rooms", new DungeonBuilder().backtracking(), 0);
        Check.due("backtracking() of one room", Makers.grid(1).backtracking(), 0);
        Check.due("backtracking() of rooms apart", Makers.grid(12).backtracking(), 0);
        Check.due("backtracking() of two rooms", Makers.line(2).backtracking(), 1);
        Check.due("backtracking() on a line", Makers.line(12).backtracking(), 11);
        Check.due("backtracking() on a star", Makers.star(12).backtracking(), 1 + 2 * 10);
        // Two arms of five from room 0, visited by turns: 1, 2, 3, 4 and so on up to 10.
        DungeonBuilder arms = Makers.grid(11, 0, 1, 1, 3, 3, 5, 5, 7, 7, 9, 0, 2, 2, 4, 4, 6, 6, 8, 8, 10);
        Check.due("backtracking() on two arms", arms.backtracking(), 1 + 2 + 3 + 4 + 5 + 6 + 7 + 8 + 9 + 10);
    }

    private static void backtrackingWithLocks() {
        DungeonBuilder d = Makers.grid(4, 0, 1, 0, 2, 1, 3, 2, 3);
        d.setLock(3, 5);
        Check.due("backtracking(): 1 and 2 and, through the lock, 1", d.backtracking(), 4);
        d.removeCorridor(3);
        Check.due("backtracking(): 1 and 2 and 3", d.backtracking(), 6);
    }

    private static void averageWithoutRooms() {
        Twins.unchanged("averageBits() without rooms", Makers::emptyWithText, DungeonBuilder::averageBits,
                Long.MIN_VALUE);
        DungeonBuilder d = Makers.grid(1);
        d.removeRoom(0);
        Check.due("averageBits() after removing the only room", d.averageBits(), Long.MIN_VALUE);
    }

    private static void average(DungeonBuilder d) {
        double sum = 0;
        for (int room = 0; room < d.count(0); room++) {
            sum += d.difficulty(room);
        }
        Check.due("averageBits() of " + sum, d.averageBits(), Double.doubleToLongBits(sum / d.count(0)));
    }

    private static void averages() {
        Check.due("averageBits() of 0", Makers.grid(1).averageBits(), 0L);
        DungeonBuilder one = Makers.grid(1);
        one.setCurve(1);
        Check.due("averageBits() of 1", one.averageBits(), 0x3ff0000000000000L);
        Check.due("averageBits() of 0 and 10", Makers.line(2).averageBits(), 0x4014000000000000L);
        Check.due("averageBits() of 0, 10 and 10", Makers.star(3).averageBits(), 0x401aaaaaaaaaaaabL);
        for (int curve = 0; curve <= 2; curve++) {
            for (int rooms = 1; rooms <= 12; rooms++) {
                DungeonBuilder[] all = {Makers.line(rooms), Makers.star(rooms), Makers.grid(rooms),
                        Makers.complete(Math.min(rooms, 7))};
                for (DungeonBuilder d : all) {
                    d.setCurve(curve);
                    average(d);
                }
            }
            DungeonBuilder full = Makers.bareFull();
            full.setCurve(curve);
            average(full);
            full.setEntrance(11);
            average(full);
        }
        for (int w = 2; w <= 12; w++) {
            for (int h = 2; h <= 12; h++) {
                DungeonBuilder d = new DungeonBuilder();
                d.addRoom(0, 0, w, h);
                d.addRoom(12, 0, 2, 2);
                d.addRoom(14, 0, 2, 2);
                d.addCorridor(0, 1);
                d.addCorridor(1, 2);
                d.setCurve(1);
                average(d);
            }
        }
    }

    private static void averageOfAllRooms() {
        DungeonBuilder d = Makers.line(3);
        d.setLock(0, 0);
        Check.due("averageBits() of 0, 10 and 20", d.averageBits(), Double.doubleToLongBits(10.0));
        Check.due("averageBits() of 0 and eleven times 500", Makers.grid(12).averageBits(),
                Double.doubleToLongBits(5500.0 / 12.0));
    }
}
