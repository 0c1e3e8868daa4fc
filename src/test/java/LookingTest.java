/** Promises 17 to 24: counts, numbers about rooms and corridors, the map. */
public final class LookingTest {
    private static final int NO_SUCH_ELEMENT = -101;
    private static final int BAD_VALUE = -102;
    private static final int NONE = -104;

    public static void main(String[] args) {
        promise17Count();
        promise17Groups();
        promise17CorridorCells();
        promise18Room();
        promise19Corridor();
        promise20Between();
        promise21Entrance();
        promise22Cell();
        promise22TheWayOfACorridor();
        promise22LongRooms();
        promise23Sign();
        promise23LocksOnACell();
        promise24Steps();
        promise24AcrossCorridors();
        promise24Errors();
        whereAllIsFull();
        Check.end();
    }

    /** Three rooms in a row with the centers (1, 1), (11, 1) and (21, 1), and one below with the center (11, 9). */
    private static DungeonBuilder cross() {
        return Check.made("r0,0,2,2;r10,0,2,2;r20,0,2,2;r10,8,2,2");
    }

    private static void promise17Count() {
        DungeonBuilder d = EditingTest.grid(8, 0, 1, 1, 2, 0, 2, 2, 3, 5, 6);
        d.addRoom(12, 8, 12, 3);
        d.setLock(0, 0);
        d.setLock(3, 0);
        d.setKey(0, 5);
        d.setKey(1, 5);
        d.setKey(7, 0);
        d.append('e');
        int[] due = {9, 5, 2, 3, 8 * 4 + 36, 0, 3, 5, 2, 1};
        for (int what = 0; what < 10; what++) {
            if (what != 5) {
                Check.due("count(" + what + ")", d.count(what), due[what]);
            }
        }
        for (int what : new int[] {-1, 10, Integer.MIN_VALUE, Integer.MAX_VALUE}) {
            Check.due("count(" + what + ")", d.count(what), BAD_VALUE);
        }
        d.read();
        Check.due("count(9) after reading", d.count(9), 0);
    }

    private static void promise17Groups() {
        Check.due("groups that lie among each other", EditingTest.grid(5, 0, 2, 1, 3, 2, 4).count(7), 2);
        DungeonBuilder d = EditingTest.grid(7);
        Check.due("groups without corridors", d.count(7), 7);
        Check.due("bridges without corridors", d.count(8), 0);
        Check.due("dead ends without corridors", d.count(6), 0);
        // Each with the groups that there are then: a line, a ring of four on it, at last a ring through all.
        int[][] corridors = {{0, 1, 6}, {2, 3, 5}, {4, 5, 4}, {1, 2, 3}, {0, 3, 3}, {3, 4, 2}, {5, 6, 1}, {6, 0, 1}};
        for (int[] c : corridors) {
            d.addCorridor(c[0], c[1]);
            Check.due("groups after " + c[0] + "-" + c[1], d.count(7), c[2]);
        }
        for (int c = 7; c >= 3; c--) {
            d.setLock(c, 1);
        }
        Check.due("locks do not matter for groups", d.count(7), 1);
        Check.due("locks do not matter for bridges", d.count(8), 0);
        d.removeCorridor(7);
        Check.due("bridges with a ring and a tail", d.count(8), 3);
        Check.due("dead ends with a ring and a tail", d.count(6), 1);
        d.removeCorridor(4);
        Check.due("bridges on a line", d.count(8), 6);
        Check.due("dead ends on a line", d.count(6), 2);
        d.removeCorridor(2);
        Check.due("bridges of two groups", d.count(8), 5);
        Check.due("groups", d.count(7), 2);
    }

    private static void promise17CorridorCells() {
        DungeonBuilder d = cross();
        d.addCorridor(0, 2);
        Check.due("past the room between", d.count(5), 16);
        d.addCorridor(0, 1);
        Check.due("the same cells again", d.count(5), 16);
        d.addCorridor(1, 3);
        Check.due("below", d.count(5), 22);
        d.addCorridor(0, 3);
        Check.due("down and along, the corner in no room", d.count(5), 22 + 8 + 8);
        d.addCorridor(2, 3);
        Check.due("along, over known cells", d.count(5), 38);
    }

    private static void promise18Room() {
        DungeonBuilder d = Check.made("r3,4,5,7;r12,0,2,3;r16,2,4,12;c0,1;c2,0;k1,0;k2,5");
        int[][] due = {{3, 4, 5, 7, NONE, 2, 5, 7}, {12, 0, 2, 3, 0, 1, 13, 1}, {16, 2, 4, 12, 5, 1, 18, 8}};
        for (int room = 0; room < 3; room++) {
            for (int what = 0; what < 8; what++) {
                Check.due("room(" + room + ", " + what + ")", d.room(room, what), due[room][what]);
            }
            Check.due("room(" + room + ", 8)", d.room(room, 8), BAD_VALUE);
            Check.due("room(" + room + ", -1)", d.room(room, -1), BAD_VALUE);
        }
        for (int room : new int[] {-1, 3, 11, 12, Integer.MIN_VALUE, Integer.MAX_VALUE}) {
            Check.due("room(" + room + ", 0)", d.room(room, 0), NO_SUCH_ELEMENT);
            Check.due("room(" + room + ", 8)", d.room(room, 8), NO_SUCH_ELEMENT);
        }
    }

    private static void promise19Corridor() {
        DungeonBuilder d = cross();
        d.addCorridor(2, 0);
        d.addCorridor(3, 1);
        d.addCorridor(3, 0);
        d.setLock(1, 0);
        d.setLock(2, 5);
        int[][] due = {{0, 2, NONE, 16}, {1, 3, 0, 6}, {0, 3, 5, 8 + 6}};
        for (int c = 0; c < 3; c++) {
            for (int what = 0; what < 4; what++) {
                Check.due("corridor(" + c + ", " + what + ")", d.corridor(c, what), due[c][what]);
            }
            Check.due("corridor(" + c + ", 4)", d.corridor(c, 4), BAD_VALUE);
            Check.due("corridor(" + c + ", -1)", d.corridor(c, -1), BAD_VALUE);
        }
        for (int c : new int[] {-1, 3, 19, 20, Integer.MIN_VALUE, Integer.MAX_VALUE}) {
            Check.due("corridor(" + c + ", 0)", d.corridor(c, 0), NO_SUCH_ELEMENT);
            Check.due("corridor(" + c + ", 4)", d.corridor(c, 4), NO_SUCH_ELEMENT);
        }
        d.removeCorridor(0);
        Check.due("with an odd number, down first", d.corridor(1, 3), 8 + 6 + 2);
        d.addRoom(0, 2, 2, 2);
        Check.due("a later room takes cells", d.corridor(1, 3), 14);
    }

    private static void promise20Between() {
        DungeonBuilder d = EditingTest.grid(4, 0, 1, 3, 1);
        Check.due("between(0, 1)", d.between(0, 1), 0);
        Check.due("between(1, 0)", d.between(1, 0), 0);
        Check.due("between(1, 3)", d.between(1, 3), 1);
        Check.due("between(3, 1)", d.between(3, 1), 1);
        Check.due("between(0, 3)", d.between(0, 3), NONE);
        Check.due("between(1, 1)", d.between(1, 1), NONE);
        Check.due("between(0, 4)", d.between(0, 4), NO_SUCH_ELEMENT);
        Check.due("between(4, 0)", d.between(4, 0), NO_SUCH_ELEMENT);
        Check.due("between(-1, 0)", d.between(-1, 0), NO_SUCH_ELEMENT);
        Check.due("between(0, MIN)", d.between(0, Integer.MIN_VALUE), NO_SUCH_ELEMENT);
        Check.due("between(MAX, MAX)", d.between(Integer.MAX_VALUE, Integer.MAX_VALUE), NO_SUCH_ELEMENT);
    }

    private static void promise21Entrance() {
        DungeonBuilder d = new DungeonBuilder();
        Check.due("entrance() without rooms", d.entrance(), NONE);
        d.addRoom(0, 0, 2, 2);
        d.addRoom(4, 0, 2, 2);
        Check.due("entrance(), at first room 0", d.entrance(), 0);
        d.setEntrance(1);
        Check.due("entrance()", d.entrance(), 1);
        d.undo();
        Check.due("entrance() after undoing", d.entrance(), 0);
    }

    private static void promise22Cell() {
        DungeonBuilder d = cross();
        d.addCorridor(0, 2);
        d.addCorridor(0, 1);
        d.addCorridor(1, 3);
        int[][] due = {{0, 0, 0}, {1, 1, 0}, {2, 1, 20}, {9, 1, 20}, {10, 1, 1}, {11, 1, 1}, {12, 1, 20}, {19, 1, 20},
            {20, 1, 2}, {21, 0, 2}, {22, 1, NONE}, {11, 2, 22}, {11, 7, 22}, {11, 8, 3}, {10, 2, NONE}, {11, 10, NONE},
            {2, 0, NONE}, {2, 2, NONE}, {23, 15, NONE}, {24, 0, NO_SUCH_ELEMENT}, {0, 16, NO_SUCH_ELEMENT},
            {-1, 0, NO_SUCH_ELEMENT}, {0, -1, NO_SUCH_ELEMENT}, {-1, 1, NO_SUCH_ELEMENT}, {24, 14, NO_SUCH_ELEMENT},
            {Integer.MAX_VALUE, 0, NO_SUCH_ELEMENT}, {0, Integer.MIN_VALUE, NO_SUCH_ELEMENT}, {-24, 1, NO_SUCH_ELEMENT}, {24, -1, NO_SUCH_ELEMENT}};
        for (int[] c : due) {
            Check.due("cell(" + c[0] + ", " + c[1] + ")", d.cell(c[0], c[1]), c[2]);
        }
        d.removeCorridor(0);
        Check.due("cell(5, 1) of the next corridor", d.cell(5, 1), 20);
        Check.due("cell(15, 1) of none", d.cell(15, 1), NONE);
    }

    private static void promise22TheWayOfACorridor() {
        // The way between (1, 1) and (11, 9), and between (11, 9) and (21, 1), where the lower room lies on the right.
        DungeonBuilder d = Check.made("r0,0,2,2;r20,0,2,2;r10,8,2,2;c0,2;c1,2");
        int[][] even = {{2, 1, 20}, {11, 1, 20}, {11, 7, 20}, {1, 2, NONE}, {1, 9, NONE}, {9, 9, NONE}};
        int[][] odd = {{21, 2, 21}, {21, 9, 21}, {12, 9, 21}, {19, 1, NONE}};
        for (int[] c : even) {
            Check.due("even: cell(" + c[0] + ", " + c[1] + ")", d.cell(c[0], c[1]), c[2]);
        }
        for (int[] c : odd) {
            Check.due("odd: cell(" + c[0] + ", " + c[1] + ")", d.cell(c[0], c[1]), c[2]);
        }
        d.removeCorridor(0);
        int[][] now = {{21, 2, NONE}, {21, 9, NONE}, {12, 9, NONE}, {19, 1, 20}, {11, 1, 20}, {11, 7, 20}};
        for (int[] c : now) {
            Check.due("even now: cell(" + c[0] + ", " + c[1] + ")", d.cell(c[0], c[1]), c[2]);
        }
        // The lower room lies below and on the right.
        DungeonBuilder up = Check.made("r20,12,3,3;r2,2,3,3;c0,1");
        int[][] back = {{19, 13, 20}, {3, 13, 20}, {3, 5, 20}, {21, 11, NONE}, {5, 3, NONE}};
        for (int[] c : back) {
            Check.due("back: cell(" + c[0] + ", " + c[1] + ")", up.cell(c[0], c[1]), c[2]);
        }
    }

    private static void promise22LongRooms() {
        DungeonBuilder d = Check.made("r2,1,9,3;r15,4,2,11");
        int[][] due = {{2, 1, 0}, {10, 1, 0}, {11, 1, NONE}, {2, 3, 0}, {10, 3, 0}, {2, 4, NONE}, {4, 5, NONE},
            {15, 4, 1}, {16, 4, 1}, {17, 4, NONE}, {15, 14, 1}, {16, 14, 1}, {15, 15, NONE}, {14, 4, NONE}, {15, 3, NONE}};
        for (int[] c : due) {
            Check.due("cell(" + c[0] + ", " + c[1] + ")", d.cell(c[0], c[1]), c[2]);
        }
    }

    private static void whereAllIsFull() {
        DungeonBuilder d = EditingTest.full();
        int[] due = {12, 20, 0, 0, 48, -1, 1, 1, 1, 0};
        for (int what = 0; what < 10; what++) {
            if (what != 5) {
                Check.due("count(" + what + ")", d.count(what), due[what]);
            }
        }
        Check.due("room(11, 5)", d.room(11, 5), 1);
        Check.due("corridor(19, 1)", d.corridor(19, 1), 10);
        Check.due("between(1, 10)", d.between(1, 10), 19);
        Check.due("cell(21, 9)", d.cell(21, 9), 11);
        Check.due("sign(21, 9)", d.sign(21, 9), 'o');
    }

    private static void promise23Sign() {
        DungeonBuilder d = cross();
        d.addCorridor(0, 1);
        d.addCorridor(1, 3);
        d.setKey(0, 2);
        d.setKey(1, 0);
        d.setKey(2, 5);
        d.setLock(1, 0);
        Object[][] due = {{0, 0, '.'}, {1, 1, '>'}, {1, 0, '.'}, {11, 1, '0'}, {21, 1, '5'}, {11, 9, 'o'}, {10, 9, '.'},
            {5, 1, '+'}, {11, 4, 'a'}, {15, 1, '#'}, {23, 15, '#'}};
        for (Object[] c : due) {
            Check.due("sign(" + c[0] + ", " + c[1] + ")", d.sign((int) c[0], (int) c[1]), (char) c[2]);
        }
        d.setLock(1, 5);
        Check.due("the last letter", d.sign(11, 4), 'f');
        d.setEntrance(1);
        Check.due("no entrance any more", d.sign(1, 1), '2');
        Check.due("the new entrance, for all its key", d.sign(11, 1), '>');
        for (int[] c : new int[][] {{24, 0}, {0, 16}, {-1, 0}, {0, -1}, {Integer.MIN_VALUE, 3}, {3, Integer.MAX_VALUE}}) {
            Check.due("sign(" + c[0] + ", " + c[1] + ")", d.sign(c[0], c[1]), NO_SUCH_ELEMENT);
        }
        Check.due("sign(0, 0) without rooms", new DungeonBuilder().sign(0, 0), '#');
    }

    private static void promise23LocksOnACell() {
        DungeonBuilder d = cross();
        d.addCorridor(0, 1);
        d.addCorridor(1, 3);
        d.addCorridor(0, 2);
        d.addCorridor(2, 3);
        d.addCorridor(0, 3);
        Check.due("three corridors without locks", d.sign(5, 1), '+');
        d.setLock(4, 1);
        Check.due("the last one has a lock", d.sign(5, 1), 'b');
        d.setLock(2, 4);
        Check.due("of two locks that of the lowest corridor", d.sign(5, 1), 'e');
        d.setLock(0, 3);
        Check.due("of three locks that of the lowest corridor", d.sign(5, 1), 'd');
        Check.due("cell(5, 1)", d.cell(5, 1), 20);
        d.setLock(0, -1);
        d.setLock(2, -1);
        Check.due("on the way of corridor 2 alone", d.sign(15, 1), '+');
        Check.due("two corridors in the column", d.sign(11, 5), 'b');
        Check.due("their lowest one", d.cell(11, 5), 21);
    }

    private static void promise24Steps() {
        DungeonBuilder d = cross();
        d.addCorridor(0, 1);
        d.addCorridor(1, 3);
        int[][] due = {{0, 0, 0, 0, 0}, {0, 0, 1, 1, 2}, {0, 0, 11, 1, 12}, {11, 1, 0, 0, 12}, {0, 1, 11, 9, 19},
            {5, 1, 11, 5, 10}, {10, 0, 10, 9, 11}, {0, 0, 21, 1, NONE}, {21, 0, 20, 1, 2}, {20, 0, 11, 4, NONE}};
        for (int[] c : due) {
            Check.due("steps from " + c[0] + ", " + c[1] + " to " + c[2] + ", " + c[3], d.steps(c[0], c[1], c[2], c[3]), c[4]);
        }
        d.setLock(0, 3);
        Check.due("locks do not matter", d.steps(0, 0, 11, 1), 12);
        d.addRoom(12, 0, 2, 2);
        Check.due("rooms that touch are one floor", d.steps(11, 0, 13, 0), 2);
        d.addRoom(14, 2, 2, 2);
        Check.due("corners do not touch", d.steps(13, 1, 14, 2), NONE);
    }

    private static void promise24AcrossCorridors() {
        // Corridor 0 runs in row 1 from column 1 to 21, corridor 1 down column 11 from a room in rows 4 and 5.
        DungeonBuilder d = Check.made("r0,0,2,2;r20,0,2,2;r6,3,2,2;r6,12,2,2;c0,1;c2,3");
        Check.due("a room below the corridor does not touch it", d.steps(7, 3, 7, 1), NONE);
        d.addRoom(7, 2, 2, 1);
        d.addRoom(8, 2, 2, 2);
        Check.due("a room between them does", d.steps(7, 3, 7, 1), 4);
        Check.due("from corridor to corridor", d.steps(15, 1, 7, 8), 7 + 2 + 1 + 5);
        // The border of the map is no way: the end of a row does not touch the start of the next.
        DungeonBuilder edges = Check.made("r22,0,2,2;r0,1,2,2;r0,14,2,2;r22,14,2,2");
        Check.due("from the right edge to the left edge", edges.steps(23, 0, 0, 1), NONE);
        Check.due("from the lower edge", edges.steps(0, 15, 1, 14), 2);
        Check.due("in the last corner", edges.steps(23, 15, 22, 14), 2);
    }

    private static void promise24Errors() {
        DungeonBuilder d = cross();
        int[][] due = {{24, 0, 0, 0, NO_SUCH_ELEMENT}, {0, 16, 0, 0, NO_SUCH_ELEMENT}, {0, 0, -1, 0, NO_SUCH_ELEMENT},
            {0, 0, 0, -1, NO_SUCH_ELEMENT}, {5, 5, 24, 0, NO_SUCH_ELEMENT}, {Integer.MIN_VALUE, 0, 5, 5, NO_SUCH_ELEMENT},
            {5, 5, 0, 0, BAD_VALUE}, {0, 0, 5, 5, BAD_VALUE}, {5, 5, 5, 5, BAD_VALUE}, {0, 0, 10, 0, NONE}};
        for (int[] c : due) {
            Check.due("steps from " + c[0] + ", " + c[1] + " to " + c[2] + ", " + c[3], d.steps(c[0], c[1], c[2], c[3]), c[4]);
        }
    }
}
