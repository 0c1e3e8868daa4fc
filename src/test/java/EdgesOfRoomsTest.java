/** The edges of what the document says of the map and of rooms: promises 1, 2, 6, 7, 18 and 21. */
public final class EdgesOfRoomsTest {
    private static final int NO_SUCH_ELEMENT = -101;
    private static final int BAD_VALUE = -102;
    private static final int FULL = -103;
    private static final int NONE = -104;
    private static final int STATE = -105;
    private static final int CONFLICT = -106;
    private static final int MIN = Integer.MIN_VALUE;
    private static final int MAX = Integer.MAX_VALUE;

    public static void main(String[] args) {
        Check.words("Creates a builder without rooms.", EdgesOfRoomsTest::aNewObject);
        Check.words("The map has 24 columns, x from 0 to 23", EdgesOfRoomsTest::columns);
        Check.words("and 16 rows, y from 0 to 15", EdgesOfRoomsTest::rows);
        Check.words("the width, 2 to 12", EdgesOfRoomsTest::widths);
        Check.words("the height, 2 to 12", EdgesOfRoomsTest::heights);
        Check.words("BAD_VALUE if the room does not lie in the map: columns", EdgesOfRoomsTest::columnsOfRooms);
        Check.words("BAD_VALUE if the room does not lie in the map: rows", EdgesOfRoomsTest::rowsOfRooms);
        Check.words("BAD_VALUE, where a sum of column and width wraps around", EdgesOfRoomsTest::sumsThatWrapAround);
        Check.words("The center of a room is the cell (x + w / 2, y + h / 2), rounded down", EdgesOfRoomsTest::centers);
        Check.words("There are at most 12 rooms", EdgesOfRoomsTest::atMostTwelve);
        Check.words("numbered from 0 in the order in which they were added", EdgesOfRoomsTest::numbers);
        Check.words("CONFLICT if it has a cell in common with another room", EdgesOfRoomsTest::cellsInCommon);
        Check.words("two rooms have no cell in common, the one around the other", EdgesOfRoomsTest::oneAroundAnother);
        Check.words("CONFLICT with the first room and with the last one", EdgesOfRoomsTest::conflictWithAny);
        Check.words("but can touch", EdgesOfRoomsTest::touching);
        Check.words("BAD_VALUE (checked first); CONFLICT", EdgesOfRoomsTest::badValueBeforeConflict);
        Check.words("CONFLICT (checked second); FULL", EdgesOfRoomsTest::conflictBeforeFull);
        Check.words("One room is the entrance, at first room 0", EdgesOfRoomsTest::atFirstRoomZero);
        Check.words("Makes a room the entrance: the first and the last room", EdgesOfRoomsTest::anyEntrance);
        Check.words("setEntrance: NO_SUCH_ELEMENT", EdgesOfRoomsTest::noSuchEntrance);
        Check.words("Returns the room; NONE if there are no rooms", EdgesOfRoomsTest::noEntrance);
        Check.words("Removes a room: the first and the last one", EdgesOfRoomsTest::removeFirstAndLast);
        Check.words("with its key and its corridors", EdgesOfRoomsTest::removeWithCorridors);
        Check.words("Returns the number of rooms that remain, down to 0", EdgesOfRoomsTest::removeAll);
        Check.words("removeRoom: NO_SUCH_ELEMENT", EdgesOfRoomsTest::removeNone);
        Check.words("The numbers of the later rooms decrease by 1", EdgesOfRoomsTest::laterRooms);
        Check.words("also where corridors name them", EdgesOfRoomsTest::laterRoomsInCorridors);
        Check.words("also where the entrance names them", EdgesOfRoomsTest::laterRoomAsEntrance);
        Check.words("the remaining corridors are numbered anew in their order", EdgesOfRoomsTest::remainingCorridors);
        Check.words("if the room was the entrance, room 0 becomes the entrance", EdgesOfRoomsTest::removedEntrance);
        Check.words("removeRoom among 12 rooms and 20 corridors", EdgesOfRoomsTest::removeWhereAllIsFull);
        Check.words("room: 0 to 3 for x, y, w and h, of the least and the greatest room", EdgesOfRoomsTest::sizes);
        Check.words("4 for the color of its key, NONE without one", EdgesOfRoomsTest::keyOfARoom);
        Check.words("5 for the number of its corridors, 0 to 11", EdgesOfRoomsTest::corridorsOfARoom);
        Check.words("room: NO_SUCH_ELEMENT (checked first)", EdgesOfRoomsTest::noSuchRoom);
        Check.words("room: BAD_VALUE", EdgesOfRoomsTest::noSuchNumberOfARoom);
        Check.end();
    }

    private static void aNewObject() {
        DungeonBuilder d = new DungeonBuilder();
        Check.due("count(0)", d.count(0), 0);
        Check.due("room(0, 0)", d.room(0, 0), NO_SUCH_ELEMENT);
        Check.due("setEntrance(0)", d.setEntrance(0), NO_SUCH_ELEMENT);
        Check.due("removeRoom(0)", d.removeRoom(0), NO_SUCH_ELEMENT);
        Check.due("restore()", d.restore(), STATE);
        Check.due("undo()", d.undo(), NONE);
    }

    private static void columns() {
        for (int y : new int[] {0, 7, 15}) {
            Check.due("cell(0, y)", new DungeonBuilder().cell(0, y), NONE);
            Check.due("cell(23, y)", new DungeonBuilder().cell(23, y), NONE);
            for (int x : new int[] {-1, 24, -24, 48, MIN, MAX}) {
                Check.due("cell(" + x + ", " + y + ")", new DungeonBuilder().cell(x, y), NO_SUCH_ELEMENT);
            }
        }
    }

    private static void rows() {
        for (int x : new int[] {0, 11, 23}) {
            Check.due("cell(x, 0)", new DungeonBuilder().cell(x, 0), NONE);
            Check.due("cell(x, 15)", new DungeonBuilder().cell(x, 15), NONE);
            for (int y : new int[] {-1, 16, -16, 32, MIN, MAX}) {
                Check.due("cell(" + x + ", " + y + ")", new DungeonBuilder().cell(x, y), NO_SUCH_ELEMENT);
            }
        }
    }

    private static void added(int x, int y, int w, int h, int due) {
        Check.due("addRoom(" + x + ", " + y + ", " + w + ", " + h + ")", new DungeonBuilder().addRoom(x, y, w, h), due);
    }

    private static void widths() {
        for (int h : new int[] {2, 12}) {
            added(6, 2, 1, h, BAD_VALUE);
            added(6, 2, 2, h, 0);
            added(6, 2, 12, h, 0);
            added(6, 2, 13, h, BAD_VALUE);
            added(6, 2, 0, h, BAD_VALUE);
            added(6, 2, -2, h, BAD_VALUE);
            added(6, 2, -12, h, BAD_VALUE);
        }
    }

    private static void heights() {
        for (int w : new int[] {2, 12}) {
            added(6, 2, w, 1, BAD_VALUE);
            added(6, 2, w, 2, 0);
            added(6, 2, w, 12, 0);
            added(6, 2, w, 13, BAD_VALUE);
            added(6, 2, w, 0, BAD_VALUE);
            added(6, 2, w, -2, BAD_VALUE);
            added(6, 2, w, -12, BAD_VALUE);
        }
    }

    private static void columnsOfRooms() {
        for (int w = 2; w <= 12; w++) {
            added(-1, 3, w, 2, BAD_VALUE);
            added(0, 3, w, 2, 0);
            added(24 - w, 3, w, 2, 0);
            added(25 - w, 3, w, 2, BAD_VALUE);
            added(24, 3, w, 2, BAD_VALUE);
            added(-w, 3, w, 2, BAD_VALUE);
        }
    }

    private static void rowsOfRooms() {
        for (int h = 2; h <= 12; h++) {
            added(3, -1, 2, h, BAD_VALUE);
            added(3, 0, 2, h, 0);
            added(3, 16 - h, 2, h, 0);
            added(3, 17 - h, 2, h, BAD_VALUE);
            added(3, 16, 2, h, BAD_VALUE);
            added(3, -h, 2, h, BAD_VALUE);
        }
    }

    private static void sumsThatWrapAround() {
        added(MAX, 0, 2, 2, BAD_VALUE);
        added(MAX - 1, 0, 2, 2, BAD_VALUE);
        added(MAX - 11, 0, 12, 2, BAD_VALUE);
        added(0, MAX, 2, 2, BAD_VALUE);
        added(0, MAX - 1, 2, 2, BAD_VALUE);
        added(0, MAX - 11, 2, 12, BAD_VALUE);
        added(MIN, 0, 12, 2, BAD_VALUE);
        added(0, MIN, 2, 12, BAD_VALUE);
        added(2, 0, MAX, 2, BAD_VALUE);
        added(2, 0, MIN, 2, BAD_VALUE);
        added(0, 2, 2, MAX, BAD_VALUE);
        added(0, 2, 2, MIN, BAD_VALUE);
        added(MAX, MAX, MAX, MAX, BAD_VALUE);
        added(MIN, MIN, MIN, MIN, BAD_VALUE);
    }

    private static void centers() {
        int[] half = {0, 0, 1, 1, 2, 2, 3, 3, 4, 4, 5, 5, 6};
        for (int size = 2; size <= 12; size++) {
            DungeonBuilder wide = new DungeonBuilder();
            wide.addRoom(7, 5, size, 2);
            Check.due("the column of the center, width " + size, wide.room(0, 6), 7 + half[size]);
            Check.due("the row of the center", wide.room(0, 7), 6);
            Check.due("the sign of the center", wide.sign(7 + half[size], 6), '>');
            DungeonBuilder high = new DungeonBuilder();
            high.addRoom(7, 3, 2, size);
            Check.due("the row of the center, height " + size, high.room(0, 7), 3 + half[size]);
            Check.due("the column of the center", high.room(0, 6), 8);
            Check.due("the sign of the center", high.sign(8, 3 + half[size]), '>');
        }
    }

    private static void atMostTwelve() {
        DungeonBuilder d = Makers.grid(11);
        Check.due("the twelfth room", d.addRoom(20, 8, 2, 2), 11);
        Check.due("the thirteenth room", d.addRoom(22, 14, 2, 2), FULL);
        Check.due("count(0)", d.count(0), 12);
        Check.due("room(12, 0)", d.room(12, 0), NO_SUCH_ELEMENT);
        Check.due("removeRoom(5)", d.removeRoom(5), 11);
        Check.due("there is place for one again", d.addRoom(22, 14, 2, 2), 11);
        Check.due("and for one only", d.addRoom(20, 0, 2, 2), FULL);
    }

    private static void numbers() {
        DungeonBuilder d = new DungeonBuilder();
        for (int i = 0; i < 12; i++) {
            Check.due("addRoom", d.addRoom(22 - 2 * (i % 6), 8 - 8 * (i / 6), 2, 2), i);
        }
        for (int i = 0; i < 12; i++) {
            Check.due("room(" + i + ", 0)", d.room(i, 0), 22 - 2 * (i % 6));
            Check.due("room(" + i + ", 1)", d.room(i, 1), 8 - 8 * (i / 6));
        }
    }

    private static boolean inRoom(int x, int y) {
        return x >= 8 && x <= 11 && y >= 6 && y <= 8;
    }

    /** Around a room of the columns 8 to 11 and the rows 6 to 8, all places of a room of 2 by 3. */
    private static void cellsInCommon() {
        for (int x = 0; x <= 22; x++) {
            for (int y = 0; y <= 13; y++) {
                boolean common = false;
                for (int cell = 0; cell < 6; cell++) {
                    common |= inRoom(x + cell % 2, y + cell / 2);
                }
                DungeonBuilder d = new DungeonBuilder();
                d.addRoom(8, 6, 4, 3);
                Check.due("addRoom(" + x + ", " + y + ", 2, 3)", d.addRoom(x, y, 2, 3), common ? CONFLICT : 1);
            }
        }
    }

    private static void oneAroundAnother() {
        int[][] pairs = {{5, 5, 2, 2, 2, 2, 12, 12}, {2, 2, 12, 12, 5, 5, 2, 2}, {5, 5, 4, 4, 5, 5, 4, 4},
            {0, 6, 12, 2, 6, 0, 2, 12}, {6, 0, 2, 12, 0, 6, 12, 2}, {2, 2, 12, 12, 13, 13, 2, 2},
            {13, 13, 2, 2, 2, 2, 12, 12}};
        for (int[] r : pairs) {
            DungeonBuilder d = new DungeonBuilder();
            Check.due("the one", d.addRoom(r[0], r[1], r[2], r[3]), 0);
            Check.due("the other at " + r[4] + ", " + r[5], d.addRoom(r[4], r[5], r[6], r[7]), CONFLICT);
        }
    }

    private static void conflictWithAny() {
        DungeonBuilder d = Makers.grid(11);
        for (int room = 0; room < 11; room++) {
            Check.due("in the way of room " + room, d.addRoom(room % 6 * 4 + 1, room / 6 * 8 + 1, 2, 2), CONFLICT);
        }
        d.removeRoom(10);
        Check.due("a removed room is in no way", d.addRoom(17, 9, 2, 2), 10);
    }

    private static void touching() {
        DungeonBuilder d = new DungeonBuilder();
        int[][] rooms = {{8, 6, 4, 3}, {6, 6, 2, 3}, {12, 6, 2, 3}, {8, 4, 4, 2}, {8, 9, 4, 2}, {6, 4, 2, 2}, {12, 4, 2,
                2},
            {6, 9, 2, 2}, {12, 9, 2, 2}};
        for (int i = 0; i < rooms.length; i++) {
            int[] r = rooms[i];
            Check.due("touching at " + r[0] + ", " + r[1], d.addRoom(r[0], r[1], r[2], r[3]), i);
        }
    }

    private static void badValueBeforeConflict() {
        int[][] bad = {{0, 0, 1, 2}, {0, 0, 2, 1}, {0, 0, 13, 2}, {0, 0, 2, 13}, {-1, 0, 2, 2}, {0, -1, 2, 2}};
        for (int[] r : bad) {
            Twins.unchanged("addRoom on a room", Makers::rich, d -> d.addRoom(r[0], r[1], r[2], r[3]), BAD_VALUE);
            Twins.unchanged("addRoom on a room among 12", Makers::full, d -> d.addRoom(r[0], r[1], r[2], r[3]),
                    BAD_VALUE);
        }
        Twins.unchanged("addRoom(23, 14, 2, 2) among 12", Makers::full, d -> d.addRoom(23, 14, 2, 2), BAD_VALUE);
    }

    private static void conflictBeforeFull() {
        Twins.unchanged("addRoom(1, 1, 2, 2)", Makers::rich, d -> d.addRoom(1, 1, 2, 2), CONFLICT);
        Twins.unchanged("addRoom(1, 1, 2, 2) among 12", Makers::full, d -> d.addRoom(1, 1, 2, 2), CONFLICT);
        Twins.unchanged("addRoom(21, 9, 2, 2) among 12", Makers::full, d -> d.addRoom(21, 9, 2, 2), CONFLICT);
        Twins.unchanged("addRoom(22, 14, 2, 2) among 12", Makers::full, d -> d.addRoom(22, 14, 2, 2), FULL);
    }

    private static void atFirstRoomZero() {
        DungeonBuilder d = new DungeonBuilder();
        d.addRoom(0, 0, 2, 2);
        Check.due("entrance() with one room", d.entrance(), 0);
        d.addRoom(4, 0, 2, 2);
        Check.due("entrance() with two rooms", d.entrance(), 0);
        Check.due("setEntrance(1)", d.setEntrance(1), 0);
    }

    private static void anyEntrance() {
        DungeonBuilder d = Makers.grid(12);
        Check.due("setEntrance(11)", d.setEntrance(11), 0);
        Check.due("entrance()", d.entrance(), 11);
        Check.due("setEntrance(11) again", d.setEntrance(11), 11);
        Check.due("setEntrance(0)", d.setEntrance(0), 11);
        Check.due("entrance()", d.entrance(), 0);
    }

    private static void noSuchEntrance() {
        Twins.unchanged("setEntrance(0) without rooms", Makers::emptyWithText, d -> d.setEntrance(0), NO_SUCH_ELEMENT);
        Twins.unchanged("setEntrance(5) of 5", Makers::rich, d -> d.setEntrance(5), NO_SUCH_ELEMENT);
        Twins.unchanged("setEntrance(-1)", Makers::rich, d -> d.setEntrance(-1), NO_SUCH_ELEMENT);
        Twins.unchanged("setEntrance(12) of 12", Makers::full, d -> d.setEntrance(12), NO_SUCH_ELEMENT);
        Twins.unchanged("setEntrance(MIN)", Makers::full, d -> d.setEntrance(MIN), NO_SUCH_ELEMENT);
        Twins.unchanged("setEntrance(MAX)", Makers::full, d -> d.setEntrance(MAX), NO_SUCH_ELEMENT);
    }

    private static void noEntrance() {
        DungeonBuilder d = new DungeonBuilder();
        Check.due("entrance() of a new object", d.entrance(), NONE);
        d.addRoom(0, 0, 2, 2);
        Check.due("entrance()", d.entrance(), 0);
        d.removeRoom(0);
        Check.due("entrance() after the only room", d.entrance(), NONE);
        d.build(1, 0);
        Check.due("entrance() after building", d.entrance(), 0);
        d.undo();
        Check.due("entrance() after undoing", d.entrance(), NONE);
    }

    private static void removeFirstAndLast() {
        DungeonBuilder d = Makers.grid(3);
        Check.due("removeRoom(2)", d.removeRoom(2), 2);
        Check.due("room(1, 0)", d.room(1, 0), 4);
        Check.due("room(2, 0)", d.room(2, 0), NO_SUCH_ELEMENT);
        Check.due("removeRoom(0)", d.removeRoom(0), 1);
        Check.due("room(0, 0)", d.room(0, 0), 4);
        Check.due("room(1, 0)", d.room(1, 0), NO_SUCH_ELEMENT);
    }

    private static void removeWithCorridors() {
        DungeonBuilder d = Makers.star(6);
        d.setKey(0, 4);
        d.setLock(2, 4);
        Check.due("removeRoom(0)", d.removeRoom(0), 5);
        Check.due("corridors", d.count(1), 0);
        Check.due("locks", d.count(2), 0);
        Check.due("keys", d.count(3), 0);
        DungeonBuilder apart = Makers.grid(4, 0, 1, 1, 2);
        Check.due("removeRoom(3) without corridors", apart.removeRoom(3), 3);
        Check.due("corridors", apart.count(1), 2);
        DungeonBuilder again = Makers.grid(2);
        again.setKey(1, 3);
        again.removeRoom(1);
        again.addRoom(8, 8, 2, 2);
        Check.due("the next room has no key", again.room(1, 4), NONE);
    }

    private static void removeAll() {
        DungeonBuilder d = Makers.line(12);
        for (int rooms = 11; rooms >= 0; rooms--) {
            Check.due("removeRoom(0)", d.removeRoom(0), rooms);
            Check.due("count(0)", d.count(0), rooms);
            Check.due("count(1)", d.count(1), Math.max(0, rooms - 1));
        }
        Check.due("removeRoom(0) without rooms", d.removeRoom(0), NO_SUCH_ELEMENT);
    }

    private static void removeNone() {
        Twins.unchanged("removeRoom(0) without rooms", Makers::emptyWithText, d -> d.removeRoom(0), NO_SUCH_ELEMENT);
        Twins.unchanged("removeRoom(5) of 5", Makers::rich, d -> d.removeRoom(5), NO_SUCH_ELEMENT);
        Twins.unchanged("removeRoom(-1)", Makers::rich, d -> d.removeRoom(-1), NO_SUCH_ELEMENT);
        Twins.unchanged("removeRoom(12) of 12", Makers::full, d -> d.removeRoom(12), NO_SUCH_ELEMENT);
        Twins.unchanged("removeRoom(MIN)", Makers::full, d -> d.removeRoom(MIN), NO_SUCH_ELEMENT);
        Twins.unchanged("removeRoom(MAX)", Makers::full, d -> d.removeRoom(MAX), NO_SUCH_ELEMENT);
    }

    private static void laterRooms() {
        DungeonBuilder d = Makers.grid(4);
        d.setKey(0, 1);
        d.setKey(2, 3);
        d.setKey(3, 5);
        d.removeRoom(1);
        Check.row("x", i -> d.room(i, 0), 0, 8, 12, NO_SUCH_ELEMENT);
        Check.row("key", i -> d.room(i, 4), 1, 3, 5, NO_SUCH_ELEMENT);
        DungeonBuilder sizes = Check.made("r0,0,2,3;r4,4,4,5;r10,6,6,7");
        sizes.removeRoom(0);
        Check.row("x", i -> sizes.room(i, 0), 4, 10);
        Check.row("y", i -> sizes.room(i, 1), 4, 6);
        Check.row("w", i -> sizes.room(i, 2), 4, 6);
        Check.row("h", i -> sizes.room(i, 3), 5, 7);
    }

    private static void laterRoomsInCorridors() {
        DungeonBuilder d = Makers.grid(5, 0, 1, 1, 3, 3, 4, 0, 4);
        d.removeRoom(2);
        Check.row("the lower room", c -> d.corridor(c, 0), 0, 1, 2, 0, NO_SUCH_ELEMENT);
        Check.row("the higher room", c -> d.corridor(c, 1), 1, 2, 3, 3, NO_SUCH_ELEMENT);
        Check.due("between(2, 3)", d.between(2, 3), 2);
    }

    private static void laterRoomAsEntrance() {
        for (int removed = 0; removed < 4; removed++) {
            DungeonBuilder d = Makers.grid(4);
            d.setEntrance(2);
            d.removeRoom(removed);
            Check.due("entrance() after removeRoom(" + removed + ")", d.entrance(), new int[] {1, 1, 0, 2}[removed]);
        }
    }

    private static void remainingCorridors() {
        DungeonBuilder d = Makers.grid(4, 0, 1, 2, 3, 1, 2, 0, 3, 1, 3);
        for (int c = 0; c < 5; c++) {
            d.setLock(c, c);
        }
        d.removeRoom(1);
        Check.due("count(1)", d.count(1), 2);
        Check.row("the lock", c -> d.corridor(c, 2), 1, 3, NO_SUCH_ELEMENT);
        Check.row("the lower room", c -> d.corridor(c, 0), 1, 0);
        Check.row("the higher room", c -> d.corridor(c, 1), 2, 2);
        Check.due("the next one has no lock", d.addCorridor(0, 1), 2);
        Check.due("corridor(2, 2)", d.corridor(2, 2), NONE);
    }

    private static void removedEntrance() {
        for (int entrance = 0; entrance < 4; entrance++) {
            DungeonBuilder d = Makers.grid(4);
            d.setEntrance(entrance);
            Check.due("removeRoom(" + entrance + ")", d.removeRoom(entrance), 3);
            Check.due("entrance()", d.entrance(), 0);
        }
    }

    private static void removeWhereAllIsFull() {
        DungeonBuilder d = Makers.bareFull();
        Check.due("removeRoom(11)", d.removeRoom(11), 11);
        Check.due("corridors without 0-11", d.count(1), 19);
        Check.due("the last corridor", d.corridor(18, 1), 10);
        DungeonBuilder first = Makers.bareFull();
        Check.due("removeRoom(0)", first.removeRoom(0), 11);
        Check.due("corridors of room 1", first.count(1), 9);
        Check.due("the first corridor", first.corridor(0, 1), 1);
        Check.due("the last corridor", first.corridor(8, 1), 9);
        DungeonBuilder second = Makers.bareFull();
        Check.due("removeRoom(2)", second.removeRoom(2), 11);
        Check.due("corridors without 0-2 and 1-2", second.count(1), 18);
        Check.due("0-11 is 0-10 now", second.corridor(9, 1), 10);
        Check.due("1-10 is 1-9 now", second.corridor(17, 1), 9);
        DungeonBuilder apart = Makers.complete(7);
        apart.addRoom(22, 14, 2, 2);
        Check.due("removeRoom(7) without corridors", apart.removeRoom(7), 7);
        Check.due("corridors", apart.count(1), 20);
        Check.due("the last corridor", apart.corridor(19, 1), 6);
    }

    private static void sizes() {
        DungeonBuilder d = Check.made("r22,14,2,2;r0,4,12,12");
        Check.row("room(0, what)", what -> d.room(0, what), 22, 14, 2, 2, NONE, 0, 23, 15, BAD_VALUE);
        Check.row("room(1, what)", what -> d.room(1, what), 0, 4, 12, 12, NONE, 0, 6, 10, BAD_VALUE);
    }

    private static void keyOfARoom() {
        DungeonBuilder d = Makers.grid(12);
        Check.due("room(11, 4)", d.room(11, 4), NONE);
        for (int color = 0; color <= 5; color++) {
            d.setKey(11, color);
            Check.due("room(11, 4)", d.room(11, 4), color);
        }
        d.setKey(11, -1);
        Check.due("room(11, 4)", d.room(11, 4), NONE);
    }

    private static void corridorsOfARoom() {
        for (int rooms = 1; rooms <= 12; rooms++) {
            Check.due("room(0, 5) in a star", Makers.star(rooms).room(0, 5), rooms - 1);
            Check.due("the last one in a star", Makers.star(rooms).room(rooms - 1, 5), rooms == 1 ? 0 : 1);
        }
    }

    private static void noSuchRoom() {
        for (int room : new int[] {-1, 5, 12, MIN, MAX}) {
            for (int what : new int[] {0, 7, 8, -1}) {
                Twins.unchanged("room(" + room + ", " + what + ")", Makers::rich, d -> d.room(room, what),
                        NO_SUCH_ELEMENT);
            }
        }
        Check.due("room(0, 0) without rooms", new DungeonBuilder().room(0, 0), NO_SUCH_ELEMENT);
        Check.due("room(0, 9) without rooms", new DungeonBuilder().room(0, 9), NO_SUCH_ELEMENT);
        Check.due("room(12, 0) of 12", Makers.grid(12).room(12, 0), NO_SUCH_ELEMENT);
        Check.due("room(11, 0) of 12", Makers.grid(12).room(11, 0), 20);
    }

    private static void noSuchNumberOfARoom() {
        for (int what : new int[] {-1, 8, MIN, MAX}) {
            Twins.unchanged("room(4, " + what + ")", Makers::rich, d -> d.room(4, what), BAD_VALUE);
        }
    }
}
