/** The edges of what the document says of the cells of the map and of counts: promises 17 and 22 to 24. */
public final class EdgesOfMapTest {
    private static final int NO_SUCH_ELEMENT = -101;
    private static final int BAD_VALUE = -102;
    private static final int NONE = -104;
    private static final int MIN = Integer.MIN_VALUE;
    private static final int MAX = Integer.MAX_VALUE;

    public static void main(String[] args) {
        Check.words("along the row if the number is even, along the column if it is odd", EdgesOfMapTest::evenAndOdd);
        Check.words("between the rooms a and b, where a is the lower number", EdgesOfMapTest::fromTheLowerRoom);
        Check.words("the way to a room in the same row or in the same column", EdgesOfMapTest::straightWays);
        Check.words("without cells of rooms: rooms that touch", EdgesOfMapTest::noCells);
        Check.words("and are without cells of any room", EdgesOfMapTest::withoutAnyRoom);
        Check.words("The cells of a corridor follow the present numbers", EdgesOfMapTest::presentNumbers);
        Check.words("count: BAD_VALUE", EdgesOfMapTest::noSuchCount);
        Check.words("count of nothing", EdgesOfMapTest::countsOfNothing);
        Check.words("0 for the rooms, 1 for the corridors, up to 12 and 20", EdgesOfMapTest::roomsAndCorridors);
        Check.words("2 for the locks, 3 for the keys", EdgesOfMapTest::locksAndKeys);
        Check.words("4 for the cells of all rooms, up to the whole map", EdgesOfMapTest::cellsOfRooms);
        Check.words("5 for the different cells of all corridors", EdgesOfMapTest::cellsOfCorridors);
        Check.words("6 for the rooms with exactly one corridor", EdgesOfMapTest::deadEnds);
        Check.words("7 for the groups of rooms, 0 to 12", EdgesOfMapTest::groups);
        Check.words("groups, where locks do not matter", EdgesOfMapTest::groupsWithLocks);
        Check.words("8 for the corridors without which there would be more of these groups", EdgesOfMapTest::bridges);
        Check.words("9 for the characters in the text, 0 to 60", EdgesOfMapTest::characters);
        Check.words("cell: NO_SUCH_ELEMENT if there is no such cell", EdgesOfMapTest::noSuchCell);
        Check.words("cell: the number of its room, the first and the last cell", EdgesOfMapTest::cellsOfARoom);
        Check.words("20 plus the lowest corridor to which it belongs", EdgesOfMapTest::lowestCorridor);
        Check.words("cell: NONE if it is neither", EdgesOfMapTest::neither);
        Check.words("sign: NO_SUCH_ELEMENT", EdgesOfMapTest::noSuchSign);
        Check.words("# if it is neither in a room nor in a corridor", EdgesOfMapTest::rock);
        Check.words("in a room . except for its center", EdgesOfMapTest::exceptForTheCenter);
        Check.words("where it is > in the entrance", EdgesOfMapTest::signOfTheEntrance);
        Check.words("otherwise the digit of its key's color, or o without one", EdgesOfMapTest::digits);
        Check.words("in a corridor + if no corridor to which it belongs has a lock", EdgesOfMapTest::openCorridors);
        Check.words("the small letter, counted from a", EdgesOfMapTest::letters);
        Check.words("for the color of the lowest one with a lock", EdgesOfMapTest::lowestWithALock);
        Check.words("steps: NO_SUCH_ELEMENT if there is no such cell (checked first)", EdgesOfMapTest::stepsOffTheMap);
        Check.words("BAD_VALUE if one of them is neither in a room nor in a corridor", EdgesOfMapTest::stepsInRock);
        Check.words("steps: NONE if there is no way", EdgesOfMapTest::noWay);
        Check.words("the least number of steps between two cells, from 0", EdgesOfMapTest::fewSteps);
        Check.words("a step goes to one of the four neighbors: the borders of the map", EdgesOfMapTest::borders);
        Check.words("the steps across the whole map", EdgesOfMapTest::manySteps);
        Check.words("all cells of rooms and corridors can be entered", EdgesOfMapTest::allCanBeEntered);
        Check.words("steps, where locks do not matter", EdgesOfMapTest::stepsWithLocks);
        Check.end();
    }

    /** Corridors on the rows 1 and 9 alone, and then that between room 0 and room 7 with the number that is wanted. */
    private static DungeonBuilder withNumber(int number) {
        DungeonBuilder d = Makers.grid(12);
        for (int a = 1; a < 12; a++) {
            for (int b = a + 1; b < 12; b++) {
                if (d.count(1) < number && a / 6 == b / 6) {
                    d.addCorridor(a, b);
                }
            }
        }
        Check.due("addCorridor(7, 0)", d.addCorridor(7, 0), number);
        return d;
    }

    private static void evenAndOdd() {
        for (int number = 0; number < 20; number++) {
            DungeonBuilder d = withNumber(number);
            boolean even = number % 2 == 0;
            Check.due("corridor(" + number + ", 3)", d.corridor(number, 3), 8);
            for (int y = 2; y <= 7; y++) {
                Check.due("cell(5, " + y + ") with number " + number, d.cell(5, y), even ? 20 + number : NONE);
                Check.due("cell(1, " + y + ") with number " + number, d.cell(1, y), even ? NONE : 20 + number);
            }
            Check.holds("on row 1 with number " + number, d.cell(2, 1) == (even ? 20 + number : NONE));
            Check.holds("on row 1 with number " + number, d.cell(3, 1) == (even ? 20 + number : NONE));
        }
    }

    private static void fromTheLowerRoom() {
        for (int turned = 0; turned < 2; turned++) {
            DungeonBuilder even = Check.made("r0,0,2,2;r10,8,2,2");
            even.addCorridor(turned, 1 - turned);
            Check.due("the corner on the right above", even.cell(11, 1), 20);
            Check.due("the corner on the left below", even.cell(1, 9), NONE);
            DungeonBuilder other = Check.made("r10,8,2,2;r0,0,2,2");
            other.addCorridor(turned, 1 - turned);
            Check.due("the corner on the right above", other.cell(11, 1), NONE);
            Check.due("the corner on the left below", other.cell(1, 9), 20);
        }
        // The way has 33 cells; from a center to the left or down to one, it takes two cells of the room, else one.
        int[][] corners = {{0, 0, 20, 12, 21, 1, 30}, {20, 0, 0, 12, 1, 1, 29}, {0, 12, 20, 0, 21, 13, 31},
            {20, 12, 0, 0, 1, 13, 30}};
        for (int[] c : corners) {
            DungeonBuilder d = new DungeonBuilder();
            d.addRoom(c[0], c[1], 2, 2);
            d.addRoom(c[2], c[3], 2, 2);
            d.addCorridor(0, 1);
            Check.due("the corner", d.cell(c[4], c[5]), 20);
            Check.due("the other corner", d.cell(22 - c[4], 14 - c[5]), NONE);
            Check.due("corridor(0, 3)", d.corridor(0, 3), c[6]);
        }
    }

    private static void straightWays() {
        for (int first = 0; first < 2; first++) {
            DungeonBuilder d = Check.made("r0,0,2,2;r20,0,2,2;r0,12,2,2");
            d.addCorridor(0, 1 + first);
            d.addCorridor(0, 2 - first);
            Check.due("cells of 0-1", d.corridor(d.between(0, 1), 3), 18);
            Check.due("cells of 0-2", d.corridor(d.between(0, 2), 3), 10);
            for (int x = 2; x < 20; x++) {
                Check.due("cell(" + x + ", 1)", d.cell(x, 1), 20 + d.between(0, 1));
            }
            for (int y = 2; y < 12; y++) {
                Check.due("cell(1, " + y + ")", d.cell(1, y), 20 + d.between(0, 2));
            }
        }
    }

    private static void noCells() {
        DungeonBuilder d = Check.made("r4,4,2,2;r6,4,2,2;r4,6,2,2;r6,6,2,2", "c0,1;c0,2;c0,3;c1,2;c3,1;c3,2");
        for (int c = 0; c < 6; c++) {
            Check.due("corridor(" + c + ", 3)", d.corridor(c, 3), 0);
        }
        Check.due("count(5)", d.count(5), 0);
        DungeonBuilder one = Check.made("r0,0,2,2;r3,0,2,2;c0,1");
        Check.due("one cell between them", one.corridor(0, 3), 1);
        Check.due("count(5)", one.count(5), 1);
        Check.due("cell(2, 1)", one.cell(2, 1), 20);
        Check.due("cell(2, 0)", one.cell(2, 0), NONE);
    }

    private static void withoutAnyRoom() {
        DungeonBuilder d = Check.made("r0,0,2,2;r20,8,2,2;c0,1");
        Check.due("corridor(0, 3)", d.corridor(0, 3), 20 + 6);
        d.addRoom(8, 0, 12, 8);
        Check.due("a later room lies on the way", d.corridor(0, 3), 8 + 6);
        Check.due("cell(20, 1)", d.cell(20, 1), 20);
        d.addRoom(20, 0, 3, 8);
        Check.due("and one lies on the corner", d.corridor(0, 3), 6);
        Check.due("cell(21, 1)", d.cell(21, 1), 3);
        d.addRoom(2, 0, 6, 2);
        Check.due("and one on the rest", d.corridor(0, 3), 0);
        Check.due("count(5)", d.count(5), 0);
        d.removeRoom(3);
        Check.due("without the one on the corner", d.corridor(0, 3), 2 + 6);
        Check.due("cell(21, 7)", d.cell(21, 7), 20);
    }

    private static void presentNumbers() {
        DungeonBuilder d = Check.made("r0,0,2,2;r10,8,2,2;r20,0,2,2;r20,12,2,2;c2,3;c0,1");
        Check.due("odd: down first", d.cell(1, 9), 21);
        Check.due("odd: not along first", d.cell(11, 1), NONE);
        d.removeCorridor(0);
        Check.due("even now: along first", d.cell(11, 1), 20);
        Check.due("even now: not down first", d.cell(1, 9), NONE);
        d.undo();
        Check.due("odd again: down first", d.cell(1, 9), 21);
        d.removeRoom(3);
        Check.due("the other went with its room: along first", d.cell(11, 1), 20);
        Check.due("not down first", d.cell(1, 9), NONE);
    }

    private static void noSuchCount() {
        for (int what : new int[] {-1, 10, MIN, MAX}) {
            Twins.unchanged("count(" + what + ")", Makers::rich, d -> d.count(what), BAD_VALUE);
            Check.due("count(" + what + ") of nothing", new DungeonBuilder().count(what), BAD_VALUE);
        }
    }

    private static void countsOfNothing() {
        for (int what = 0; what <= 9; what++) {
            Check.due("count(" + what + ")", new DungeonBuilder().count(what), 0);
        }
        DungeonBuilder d = Makers.full();
        for (int room = 0; room < 12; room++) {
            d.removeRoom(0);
        }
        d.read();
        for (int what = 0; what <= 9; what++) {
            Check.due("count(" + what + ") after removing all", d.count(what), 0);
        }
    }

    private static void roomsAndCorridors() {
        for (int rooms = 0; rooms <= 12; rooms++) {
            Check.due("rooms", Makers.grid(rooms).count(0), rooms);
            Check.due("corridors", Makers.star(rooms).count(1), Math.max(0, rooms - 1));
        }
        Check.due("corridors", Makers.bareFull().count(1), 20);
    }

    private static void locksAndKeys() {
        DungeonBuilder d = Makers.bareFull();
        for (int c = 0; c < 20; c++) {
            d.setLock(c, c % 6);
            Check.due("locks", d.count(2), c + 1);
        }
        for (int room = 0; room < 12; room++) {
            d.setKey(room, room % 6);
            Check.due("keys", d.count(3), room + 1);
        }
        d.setLock(19, -1);
        d.setKey(11, -1);
        Check.due("locks", d.count(2), 19);
        Check.due("keys", d.count(3), 11);
    }

    private static void cellsOfRooms() {
        DungeonBuilder d = new DungeonBuilder();
        d.addRoom(0, 0, 2, 2);
        Check.due("the least room", d.count(4), 4);
        d.addRoom(12, 0, 12, 12);
        Check.due("and the greatest", d.count(4), 148);
        Check.due("the whole map", Check.made("r0,0,12,12;r12,0,12,12;r0,12,12,4;r12,12,12,4").count(4), 384);
    }

    private static void cellsOfCorridors() {
        DungeonBuilder d = Check.made("r0,0,2,2;r4,0,2,2;r8,0,2,2;r4,8,2,2");
        d.addCorridor(0, 2);
        Check.due("past room 1", d.count(5), 4);
        d.addCorridor(0, 1);
        Check.due("the same cells", d.count(5), 4);
        d.addCorridor(2, 1);
        Check.due("the same cells again", d.count(5), 4);
        d.addCorridor(1, 3);
        Check.due("down", d.count(5), 10);
        d.addCorridor(0, 3);
        Check.due("along and down, the same cells", d.count(5), 10);
        Check.due("but its own number counts them", d.corridor(4, 3), 8);
        d.addCorridor(2, 3);
        Check.due("down and along, other cells", d.count(5), 10 + 8 + 3);
    }

    private static void deadEnds() {
        Check.due("rooms without corridors", Makers.grid(12).count(6), 0);
        Check.due("one room", Makers.grid(1).count(6), 0);
        Check.due("two rooms", Makers.line(2).count(6), 2);
        Check.due("a line", Makers.line(12).count(6), 2);
        Check.due("a star", Makers.star(12).count(6), 11);
        Check.due("a ring", Makers.grid(3, 0, 1, 1, 2, 0, 2).count(6), 0);
        Check.due("where all is full", Makers.bareFull().count(6), 1);
    }

    private static void groups() {
        for (int rooms = 0; rooms <= 12; rooms++) {
            Check.due("groups of rooms apart", Makers.grid(rooms).count(7), rooms);
            Check.due("groups on a line", Makers.line(rooms).count(7), rooms == 0 ? 0 : 1);
        }
        Check.due("pairs", Makers.grid(12, 0, 11, 1, 10, 2, 9, 3, 8, 4, 7, 5, 6).count(7), 6);
        Check.due("rooms that touch have no corridor", Check.made("r0,0,2,2;r2,0,2,2").count(7), 2);
        DungeonBuilder far = Makers.line(4);
        far.setEntrance(2);
        far.removeCorridor(1);
        Check.due("groups out of reach of the entrance", far.count(7), 2);
    }

    private static void groupsWithLocks() {
        DungeonBuilder d = Makers.line(12);
        for (int c = 0; c < 11; c++) {
            d.setLock(c, 5);
        }
        Check.due("groups", d.count(7), 1);
        Check.due("bridges", d.count(8), 11);
    }

    private static void bridges() {
        Check.due("rooms without corridors", Makers.grid(12).count(8), 0);
        for (int rooms = 1; rooms <= 12; rooms++) {
            Check.due("a line", Makers.line(rooms).count(8), rooms - 1);
            Check.due("a star", Makers.star(rooms).count(8), rooms - 1);
        }
        Check.due("a ring of three", Makers.grid(3, 0, 1, 1, 2, 0, 2).count(8), 0);
        DungeonBuilder ring = Makers.line(12);
        ring.addCorridor(0, 11);
        Check.due("a ring of twelve", ring.count(8), 0);
        Check.due("two rings and a bridge", Makers.grid(6, 0, 1, 1, 2, 0, 2, 2, 3, 3, 4, 4, 5, 3, 5).count(8), 1);
        Check.due("a bridge out of reach of the entrance", Makers.grid(6, 0, 1, 1, 2, 0, 2, 4, 5).count(8), 1);
        Check.due("where all is full", Makers.bareFull().count(8), 1);
        DungeonBuilder last = Makers.grid(7);
        for (int i = 0; i < 15; i++) {
            last.addCorridor(i % 6, new int[] {1, 2, 3, 4, 5, 0, 2, 3, 4, 5, 0, 1, 3, 4, 5}[i]);
        }
        Check.due("corridors between six rooms", last.count(1), 15);
        Check.due("none of them is a bridge", last.count(8), 0);
        Check.due("the bridge to the last room", last.addCorridor(6, 5), 15);
        Check.due("its number is above those of all rooms", last.count(8), 1);
    }

    private static void characters() {
        DungeonBuilder d = new DungeonBuilder();
        for (int length = 1; length <= 60; length++) {
            d.append('e');
            Check.due("characters", d.count(9), length);
        }
        d.append('e');
        Check.due("characters", d.count(9), 60);
        d.read();
        Check.due("characters", d.count(9), 0);
    }

    private static void noSuchCell() {
        for (int[] c : new int[][] {{-1, 0}, {24, 0}, {0, -1}, {0, 16}, {24, 16}, {-1, -1}, {24, -1}, {-1, 16}, {MIN, 0},
            {MAX, 0}, {0, MIN}, {0, MAX}, {-24, 1}, {24, 14}, {MIN, MIN}, {MAX, MAX}}) {
            Twins.unchanged("cell(" + c[0] + ", " + c[1] + ")", Makers::rich, d -> d.cell(c[0], c[1]), NO_SUCH_ELEMENT);
        }
    }

    private static void cellsOfARoom() {
        DungeonBuilder d = Check.made("r0,0,2,2;r12,4,12,12;r0,12,12,4;r22,0,2,2");
        int[][] due = {{0, 0, 0}, {1, 1, 0}, {2, 1, NONE}, {1, 2, NONE}, {12, 4, 1}, {23, 4, 1}, {12, 15, 1}, {23, 15, 1},
            {11, 4, NONE}, {12, 3, NONE}, {0, 12, 2}, {11, 15, 2}, {0, 11, NONE}, {22, 0, 3}, {23, 1, 3}, {21, 0, NONE}};
        for (int[] c : due) {
            Check.due("cell(" + c[0] + ", " + c[1] + ")", d.cell(c[0], c[1]), c[2]);
        }
        Check.due("the last room", Makers.grid(12).cell(20, 8), 11);
    }

    private static void lowestCorridor() {
        DungeonBuilder d = Check.made("r0,0,2,2;r4,0,2,2;r8,0,2,2;r12,0,2,2", "c0,3;c0,2;c0,1;c1,2;c2,3");
        Check.row("the lowest corridor", i -> d.cell(2 + 4 * i, 1), 20, 20, 20);
        d.removeCorridor(0);
        Check.row("the lowest corridor", i -> d.cell(2 + 4 * i, 1), 20, 20, 23);
        d.removeCorridor(0);
        Check.row("the lowest corridor", i -> d.cell(2 + 4 * i, 1), 20, 21, 22);
        Check.due("the last corridor", withNumber(19).cell(1, 4), 39);
    }

    private static void neither() {
        DungeonBuilder d = Check.made("r0,0,2,2;r4,0,2,2;c0,1");
        Check.due("above the corridor", d.cell(2, 0), NONE);
        Check.due("on it", d.cell(2, 1), 20);
        Check.due("below it", d.cell(2, 2), NONE);
        Check.due("behind the room", d.cell(6, 1), NONE);
        d.removeCorridor(0);
        Check.due("where it was", d.cell(2, 1), NONE);
        d.removeRoom(1);
        Check.due("where a room was", d.cell(4, 0), NONE);
    }

    private static void noSuchSign() {
        for (int[] c : new int[][] {{-1, 0}, {24, 0}, {0, -1}, {0, 16}, {24, 16}, {-1, -1}, {24, -1}, {-1, 16}, {MIN, 0},
            {MAX, 0}, {0, MIN}, {0, MAX}, {-24, 1}, {24, 14}, {MIN, MIN}, {MAX, MAX}}) {
            Twins.unchanged("sign(" + c[0] + ", " + c[1] + ")", Makers::rich, d -> d.sign(c[0], c[1]), NO_SUCH_ELEMENT);
            Check.due("sign without rooms", new DungeonBuilder().sign(c[0], c[1]), NO_SUCH_ELEMENT);
        }
    }

    private static void rock() {
        for (int[] c : new int[][] {{0, 0}, {23, 0}, {0, 15}, {23, 15}, {12, 8}}) {
            Check.due("sign without rooms", new DungeonBuilder().sign(c[0], c[1]), '#');
        }
        Check.due("beside a corridor", Makers.line(2).sign(2, 0), '#');
    }

    private static void exceptForTheCenter() {
        DungeonBuilder d = Check.made("r0,0,12,12;r22,14,2,2");
        int[][] around = {{0, 0}, {11, 11}, {5, 6}, {7, 6}, {6, 5}, {6, 7}, {22, 14}, {23, 14}, {22, 15}};
        for (int[] c : around) {
            Check.due("sign(" + c[0] + ", " + c[1] + ")", d.sign(c[0], c[1]), '.');
        }
        Check.due("sign(6, 6)", d.sign(6, 6), '>');
        Check.due("sign(23, 15)", d.sign(23, 15), 'o');
    }

    private static void signOfTheEntrance() {
        DungeonBuilder d = Makers.grid(12);
        d.setKey(0, 3);
        d.setKey(11, 4);
        Check.due("the entrance with a key", d.sign(1, 1), '>');
        Check.due("the last room", d.sign(21, 9), '4');
        d.setEntrance(11);
        Check.due("the first room", d.sign(1, 1), '3');
        Check.due("the entrance with a key", d.sign(21, 9), '>');
    }

    private static void digits() {
        DungeonBuilder d = Makers.grid(2);
        Check.due("without a key", d.sign(5, 1), 'o');
        for (int color = 0; color <= 5; color++) {
            d.setKey(1, color);
            Check.due("the key " + color, d.sign(5, 1), "012345".charAt(color));
        }
        d.setKey(1, -1);
        Check.due("without a key", d.sign(5, 1), 'o');
    }

    private static void openCorridors() {
        DungeonBuilder d = Check.made("r0,0,2,2;r4,0,2,2;r8,0,2,2;c0,1;c0,2");
        Check.due("two corridors without locks", d.sign(2, 1), '+');
        d.setLock(0, 0);
        Check.due("one has a lock", d.sign(2, 1), 'a');
        Check.due("not to this one belongs", d.sign(6, 1), '+');
        d.setLock(0, -1);
        Check.due("none has a lock any more", d.sign(2, 1), '+');
        d.setLock(1, 1);
        Check.due("the other one has", d.sign(2, 1), 'b');
    }

    private static void letters() {
        DungeonBuilder d = Makers.line(2);
        for (int color = 0; color <= 5; color++) {
            d.setLock(0, color);
            Check.due("the lock " + color, d.sign(2, 1), "abcdef".charAt(color));
        }
    }

    private static void lowestWithALock() {
        DungeonBuilder d = Check.made("r0,0,2,2;r4,0,2,2;r8,0,2,2;r12,0,2,2;c0,3;c0,2;c0,1");
        d.setLock(2, 0);
        Check.due("corridor 2 alone has a lock", d.sign(2, 1), 'a');
        d.setLock(1, 5);
        Check.due("corridor 1 before corridor 2, although its color is higher", d.sign(2, 1), 'f');
        d.setLock(0, 3);
        Check.due("corridor 0 before both", d.sign(2, 1), 'd');
        Check.due("cell(2, 1)", d.cell(2, 1), 20);
        DungeonBuilder last = withNumber(19);
        last.setLock(19, 5);
        Check.due("the last corridor", last.sign(1, 4), 'f');
    }

    private static void stepsOffTheMap() {
        int[][] off = {{-1, 0}, {24, 0}, {0, -1}, {0, 16}, {MIN, 0}, {MAX, 0}, {0, MIN}, {0, MAX}};
        for (int[] c : off) {
            String cell = c[0] + ", " + c[1];
            Twins.unchanged("steps from " + cell, Makers::rich, d -> d.steps(c[0], c[1], 0, 0), NO_SUCH_ELEMENT);
            Twins.unchanged("steps to " + cell, Makers::rich, d -> d.steps(0, 0, c[0], c[1]), NO_SUCH_ELEMENT);
            Twins.unchanged("from " + cell + " into rock", Makers::rich, d -> d.steps(c[0], c[1], 0, 15),
                    NO_SUCH_ELEMENT);
            Twins.unchanged("from rock to " + cell, Makers::rich, d -> d.steps(0, 15, c[0], c[1]), NO_SUCH_ELEMENT);
            Check.due("steps without rooms", new DungeonBuilder().steps(c[0], c[1], 0, 0), NO_SUCH_ELEMENT);
        }
    }

    private static void stepsInRock() {
        Twins.unchanged("steps from rock", Makers::rich, d -> d.steps(0, 15, 0, 0), BAD_VALUE);
        Twins.unchanged("steps into rock", Makers::rich, d -> d.steps(0, 0, 0, 15), BAD_VALUE);
        Twins.unchanged("steps in rock", Makers::rich, d -> d.steps(0, 15, 0, 15), BAD_VALUE);
        Twins.unchanged("steps without rooms", Makers::emptyWithText, d -> d.steps(0, 0, 23, 15), BAD_VALUE);
        DungeonBuilder d = Makers.line(2);
        Check.due("from a corridor", d.steps(2, 1, 0, 0), 3);
        d.removeCorridor(0);
        Check.due("from where a corridor was", d.steps(2, 1, 0, 0), BAD_VALUE);
        Check.due("to where a corridor was", d.steps(0, 0, 2, 1), BAD_VALUE);
    }

    private static void noWay() {
        Twins.unchanged("steps between rooms apart", () -> Makers.grid(2), d -> d.steps(0, 0, 4, 0), NONE);
        DungeonBuilder d = Makers.grid(3, 1, 2);
        Check.due("into a corridor that is apart", d.steps(0, 0, 6, 1), NONE);
        Check.due("out of it", d.steps(6, 1, 0, 0), NONE);
        Check.due("in it", d.steps(6, 1, 7, 1), 1);
    }

    private static void fewSteps() {
        DungeonBuilder d = Makers.line(2);
        int[][] due = {{0, 0, 0, 0, 0}, {0, 0, 1, 0, 1}, {0, 0, 0, 1, 1}, {1, 1, 0, 0, 2}, {1, 0, 0, 1, 2}, {2, 1, 2, 1,
                0},
            {1, 1, 4, 1, 3}, {1, 0, 4, 0, 5}, {5, 0, 0, 0, 7}};
        for (int[] c : due) {
            Check.due("steps from " + c[0] + ", " + c[1] + " to " + c[2] + ", " + c[3], d.steps(c[0], c[1], c[2], c[3]),
                    c[4]);
        }
    }

    private static void borders() {
        DungeonBuilder d = Check.made("r22,0,2,2;r0,1,2,2;r0,13,2,2;r22,12,2,2;r22,14,2,2;r0,3,2,2");
        Check.due("from the right border to the left one", d.steps(23, 0, 0, 1), NONE);
        Check.due("a row below", d.steps(23, 1, 0, 2), NONE);
        Check.due("from the left border to the right one", d.steps(0, 13, 23, 12), NONE);
        Check.due("from the upper border to the lower one", d.steps(23, 0, 23, 15), NONE);
        Check.due("along the right border", d.steps(23, 12, 23, 15), 3);
        Check.due("along the left border", d.steps(0, 1, 0, 4), 3);
        Check.due("corners are no neighbors", Check.made("r0,0,2,2;r2,2,2,2").steps(1, 1, 2, 2), NONE);
    }

    private static void manySteps() {
        DungeonBuilder d = Check.made("r0,0,12,12;r12,0,12,12;r0,12,12,4;r12,12,12,4");
        Check.due("from corner to corner", d.steps(0, 0, 23, 15), 38);
        Check.due("and back", d.steps(23, 15, 0, 0), 38);
        Check.due("along the upper border", d.steps(0, 0, 23, 0), 23);
        Check.due("along the right border", d.steps(23, 0, 23, 15), 15);
        // A way that turns: down the left side, along the lower one, up the right side.
        DungeonBuilder round = Check.made("r0,0,2,12;r0,12,12,2;r12,12,10,2;r22,2,2,12");
        Check.due("around", round.steps(0, 0, 23, 2), 12 + 23 + 10);
        round.addCorridor(0, 3);
        Check.due("straight on", round.steps(0, 6, 23, 6), 23);
    }

    private static void allCanBeEntered() {
        // The corridor 0-1 runs on row 1 between two rooms that it does not connect.
        DungeonBuilder d = Check.made("r0,0,2,2;r20,0,2,2;r8,2,2,2;r12,2,2,2;c0,1");
        Check.due("from a room that touches the corridor to another", d.steps(8, 2, 13, 2), 7);
        Check.due("from the corridor into it", d.steps(8, 1, 8, 3), 2);
        d.removeCorridor(0);
        Check.due("without the corridor", d.steps(8, 2, 13, 2), NONE);
        d.addRoom(10, 3, 2, 2);
        Check.due("through a room", d.steps(8, 2, 13, 2), 7);
    }

    private static void stepsWithLocks() {
        DungeonBuilder d = Makers.line(12);
        int open = d.steps(0, 0, 21, 1);
        for (int c = 0; c < 11; c++) {
            d.setLock(c, 0);
        }
        Check.due("steps through locks", d.steps(0, 0, 21, 1), open);
        Check.due("steps", open, 22);
    }
}
