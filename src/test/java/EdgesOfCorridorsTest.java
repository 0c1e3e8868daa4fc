/** The edges of what the document says of corridors, locks, keys and the curve: promises 3, 4, 5, 8, 12, 19 and 20. */
public final class EdgesOfCorridorsTest {
    private static final int NO_SUCH_ELEMENT = -101;
    private static final int BAD_VALUE = -102;
    private static final int FULL = -103;
    private static final int NONE = -104;
    private static final int CONFLICT = -106;
    private static final int MIN = Integer.MIN_VALUE;
    private static final int MAX = Integer.MAX_VALUE;

    public static void main(String[] args) {
        Check.words("There are at most 20 corridors", EdgesOfCorridorsTest::atMostTwenty);
        Check.words("numbered from 0 in the order in which they were added", EdgesOfCorridorsTest::numbers);
        Check.words("addCorridor: NO_SUCH_ELEMENT if a room does not exist", EdgesOfCorridorsTest::noSuchRooms);
        Check.words("NO_SUCH_ELEMENT (checked first); BAD_VALUE if both are the same",
                EdgesOfCorridorsTest::noSuchRoomFirst);
        Check.words("BAD_VALUE if both are the same (checked second)", EdgesOfCorridorsTest::bothTheSame);
        Check.words("CONFLICT if they have a corridor already (checked third)", EdgesOfCorridorsTest::corridorAlready);
        Check.words("FULL if there are 20 corridors", EdgesOfCorridorsTest::fullOfCorridors);
        Check.words("setLock: the color, 0 to 5, or -1 for no lock", EdgesOfCorridorsTest::colorsOfLocks);
        Check.words("setLock: Returns the previous color, or NONE", EdgesOfCorridorsTest::previousLock);
        Check.words("setLock: NO_SUCH_ELEMENT (checked first); BAD_VALUE", EdgesOfCorridorsTest::noSuchLock);
        Check.words("setLock: BAD_VALUE", EdgesOfCorridorsTest::badLock);
        Check.words("setKey: the color, 0 to 5, or -1 for no key", EdgesOfCorridorsTest::colorsOfKeys);
        Check.words("setKey: Returns the previous color, or NONE", EdgesOfCorridorsTest::previousKey);
        Check.words("setKey: NO_SUCH_ELEMENT (checked first); BAD_VALUE", EdgesOfCorridorsTest::noSuchKey);
        Check.words("setKey: BAD_VALUE", EdgesOfCorridorsTest::badKey);
        Check.words("Several locks and several keys can have the same color", EdgesOfCorridorsTest::sameColor);
        Check.words("Removes a corridor with its lock: the first and the last one",
                EdgesOfCorridorsTest::removeFirstAndLast);
        Check.words("The numbers of the later ones decrease by 1", EdgesOfCorridorsTest::laterCorridors);
        Check.words("Returns the number of corridors that remain, down to 0", EdgesOfCorridorsTest::removeAll);
        Check.words("removeCorridor: NO_SUCH_ELEMENT", EdgesOfCorridorsTest::removeNone);
        Check.words("the curve, 0 to 2", EdgesOfCorridorsTest::curves);
        Check.words("The curve is 0 at first", EdgesOfCorridorsTest::curveAtFirst);
        Check.words("setCurve: BAD_VALUE", EdgesOfCorridorsTest::badCurve);
        Check.words("corridor: 0 and 1 for the lower and the higher room", EdgesOfCorridorsTest::lowerAndHigher);
        Check.words("2 for the color of its lock, NONE without one", EdgesOfCorridorsTest::lockOfACorridor);
        Check.words("corridor: NO_SUCH_ELEMENT (checked first)", EdgesOfCorridorsTest::noSuchCorridor);
        Check.words("corridor: BAD_VALUE", EdgesOfCorridorsTest::noSuchNumberOfACorridor);
        Check.words("between: NO_SUCH_ELEMENT if a room does not exist (checked first)",
                EdgesOfCorridorsTest::betweenNoSuchRooms);
        Check.words("Returns the corridor, the first and the last one; NONE", EdgesOfCorridorsTest::betweenRooms);
        Check.end();
    }

    private static void atMostTwenty() {
        DungeonBuilder d = Makers.star(12);
        for (int b = 2; b < 11; b++) {
            Check.due("addCorridor(1, " + b + ")", d.addCorridor(1, b), 9 + b);
        }
        Check.due("count(1)", d.count(1), 20);
        Check.due("the 21st corridor", d.addCorridor(1, 11), FULL);
        Check.due("count(1)", d.count(1), 20);
        Check.due("corridor(20, 0)", d.corridor(20, 0), NO_SUCH_ELEMENT);
        Check.due("removeCorridor(3)", d.removeCorridor(3), 19);
        Check.due("there is place for one again", d.addCorridor(1, 11), 19);
        Check.due("and for one only", d.addCorridor(0, 4), FULL);
    }

    private static void numbers() {
        DungeonBuilder d = Makers.grid(7);
        int number = 0;
        for (int a = 6; a >= 0; a--) {
            for (int b = 0; b < a && number < 20; b++) {
                Check.due("addCorridor(" + a + ", " + b + ")", d.addCorridor(a, b), number);
                number++;
            }
        }
        number = 0;
        for (int a = 6; a >= 0; a--) {
            for (int b = 0; b < a && number < 20; b++) {
                Check.due("corridor(" + number + ", 0)", d.corridor(number, 0), b);
                Check.due("corridor(" + number + ", 1)", d.corridor(number, 1), a);
                number++;
            }
        }
    }

    private static void noSuchRooms() {
        Twins.unchanged("addCorridor(0, 1) without rooms", Makers::emptyWithText, d -> d.addCorridor(0, 1),
                NO_SUCH_ELEMENT);
        for (int room : new int[] {-1, 5, 12, MIN, MAX}) {
            Twins.unchanged("addCorridor(" + room + ", 0)", Makers::rich, d -> d.addCorridor(room, 0), NO_SUCH_ELEMENT);
            Twins.unchanged("addCorridor(4, " + room + ")", Makers::rich, d -> d.addCorridor(4, room), NO_SUCH_ELEMENT);
        }
        Twins.unchanged("addCorridor(12, 1) of 12", Makers::full, d -> d.addCorridor(12, 1), NO_SUCH_ELEMENT);
        Twins.unchanged("addCorridor(1, 12) of 12", Makers::full, d -> d.addCorridor(1, 12), NO_SUCH_ELEMENT);
        Check.due("addCorridor(0, 4) of 5", Makers.rich().addCorridor(0, 4), 4);
        Check.due("addCorridor(11, 0) of 12", Makers.grid(12).addCorridor(11, 0), 0);
    }

    private static void noSuchRoomFirst() {
        Twins.unchanged("addCorridor(0, 0) without rooms", Makers::emptyWithText, d -> d.addCorridor(0, 0),
                NO_SUCH_ELEMENT);
        for (int room : new int[] {-1, 5, MIN, MAX}) {
            Twins.unchanged("addCorridor of a room that is not", Makers::rich, d -> d.addCorridor(room, room),
                    NO_SUCH_ELEMENT);
        }
        Twins.unchanged("addCorridor(12, 12) among 20", Makers::full, d -> d.addCorridor(12, 12), NO_SUCH_ELEMENT);
    }

    private static void bothTheSame() {
        for (int room = 0; room < 5; room++) {
            int both = room;
            Twins.unchanged("addCorridor(" + room + " twice)", Makers::rich, d -> d.addCorridor(both, both), BAD_VALUE);
        }
        Twins.unchanged("addCorridor(11, 11) among 20", Makers::full, d -> d.addCorridor(11, 11), BAD_VALUE);
    }

    private static void corridorAlready() {
        Twins.unchanged("addCorridor(0, 1)", Makers::rich, d -> d.addCorridor(0, 1), CONFLICT);
        Twins.unchanged("addCorridor(1, 0)", Makers::rich, d -> d.addCorridor(1, 0), CONFLICT);
        Twins.unchanged("addCorridor(3, 4)", Makers::rich, d -> d.addCorridor(3, 4), CONFLICT);
        Twins.unchanged("addCorridor(4, 3)", Makers::rich, d -> d.addCorridor(4, 3), CONFLICT);
        Twins.unchanged("addCorridor(0, 1) among 20", Makers::full, d -> d.addCorridor(0, 1), CONFLICT);
        Twins.unchanged("addCorridor(10, 1) among 20", Makers::full, d -> d.addCorridor(10, 1), CONFLICT);
        DungeonBuilder d = Makers.grid(2, 0, 1);
        d.removeCorridor(0);
        Check.due("after removing it", d.addCorridor(1, 0), 0);
    }

    private static void fullOfCorridors() {
        Twins.unchanged("addCorridor(1, 11) among 20", Makers::full, d -> d.addCorridor(1, 11), FULL);
        Twins.unchanged("addCorridor(10, 9) among 20", Makers::full, d -> d.addCorridor(10, 9), FULL);
    }

    private static void colorsOfLocks() {
        for (int color = -1; color <= 5; color++) {
            DungeonBuilder d = Makers.bareFull();
            Check.due("setLock(19, " + color + ")", d.setLock(19, color), NONE);
            Check.due("corridor(19, 2)", d.corridor(19, 2), color == -1 ? NONE : color);
            Check.due("locks", d.count(2), color == -1 ? 0 : 1);
            Check.due("setLock(0, " + color + ")", d.setLock(0, color), NONE);
            Check.due("corridor(0, 2)", d.corridor(0, 2), color == -1 ? NONE : color);
        }
    }

    private static void previousLock() {
        DungeonBuilder d = Makers.line(2);
        int previous = NONE;
        for (int color : new int[] {-1, 0, 0, 5, -1, -1, 5}) {
            Check.due("setLock(0, " + color + ")", d.setLock(0, color), previous);
            previous = color == -1 ? NONE : color;
        }
    }

    private static void noSuchLock() {
        Twins.unchanged("setLock(0, 0) without corridors", Makers::emptyWithText, d -> d.setLock(0, 0), NO_SUCH_ELEMENT);
        for (int corridor : new int[] {-1, 4, 20, MIN, MAX}) {
            for (int color : new int[] {-2, -1, 0, 6}) {
                Twins.unchanged("setLock(" + corridor + ", " + color + ")", Makers::rich, d -> d.setLock(corridor, color),
                        NO_SUCH_ELEMENT);
            }
        }
        Twins.unchanged("setLock(20, 0) of 20", Makers::full, d -> d.setLock(20, 0), NO_SUCH_ELEMENT);
    }

    private static void badLock() {
        for (int color : new int[] {-2, 6, MIN, MAX}) {
            Twins.unchanged("setLock(1, " + color + ")", Makers::rich, d -> d.setLock(1, color), BAD_VALUE);
            Twins.unchanged("setLock(2, " + color + ")", Makers::rich, d -> d.setLock(2, color), BAD_VALUE);
        }
    }

    private static void colorsOfKeys() {
        for (int color = -1; color <= 5; color++) {
            DungeonBuilder d = Makers.grid(12);
            Check.due("setKey(11, " + color + ")", d.setKey(11, color), NONE);
            Check.due("room(11, 4)", d.room(11, 4), color == -1 ? NONE : color);
            Check.due("keys", d.count(3), color == -1 ? 0 : 1);
            Check.due("setKey(0, " + color + ")", d.setKey(0, color), NONE);
            Check.due("room(0, 4)", d.room(0, 4), color == -1 ? NONE : color);
        }
    }

    private static void previousKey() {
        DungeonBuilder d = Makers.grid(1);
        int previous = NONE;
        for (int color : new int[] {-1, 0, 0, 5, -1, -1, 5}) {
            Check.due("setKey(0, " + color + ")", d.setKey(0, color), previous);
            previous = color == -1 ? NONE : color;
        }
    }

    private static void noSuchKey() {
        Twins.unchanged("setKey(0, 0) without rooms", Makers::emptyWithText, d -> d.setKey(0, 0), NO_SUCH_ELEMENT);
        for (int room : new int[] {-1, 5, 12, MIN, MAX}) {
            for (int color : new int[] {-2, -1, 0, 6}) {
                Twins.unchanged("setKey(" + room + ", " + color + ")", Makers::rich, d -> d.setKey(room, color),
                        NO_SUCH_ELEMENT);
            }
        }
        Twins.unchanged("setKey(12, 0) of 12", Makers::full, d -> d.setKey(12, 0), NO_SUCH_ELEMENT);
    }

    private static void badKey() {
        for (int color : new int[] {-2, 6, MIN, MAX}) {
            Twins.unchanged("setKey(1, " + color + ")", Makers::rich, d -> d.setKey(1, color), BAD_VALUE);
            Twins.unchanged("setKey(0, " + color + ")", Makers::rich, d -> d.setKey(0, color), BAD_VALUE);
        }
    }

    private static void sameColor() {
        DungeonBuilder d = Makers.bareFull();
        for (int c = 0; c < 20; c++) {
            Check.due("setLock(" + c + ", 5)", d.setLock(c, 5), NONE);
        }
        for (int room = 0; room < 12; room++) {
            Check.due("setKey(" + room + ", 5)", d.setKey(room, 5), NONE);
        }
        Check.due("locks", d.count(2), 20);
        Check.due("keys", d.count(3), 12);
        Check.due("a lock has no other", d.setLock(0, 4), 5);
        Check.due("locks", d.count(2), 20);
        Check.due("a key has no other", d.setKey(0, 4), 5);
        Check.due("keys", d.count(3), 12);
    }

    private static void removeFirstAndLast() {
        DungeonBuilder d = Makers.bareFull();
        d.setLock(0, 1);
        d.setLock(1, 2);
        d.setLock(18, 3);
        d.setLock(19, 4);
        Check.due("removeCorridor(19)", d.removeCorridor(19), 19);
        Check.due("locks", d.count(2), 3);
        Check.due("corridor(18, 2)", d.corridor(18, 2), 3);
        Check.due("removeCorridor(0)", d.removeCorridor(0), 18);
        Check.due("locks", d.count(2), 2);
        Check.due("corridor(0, 2)", d.corridor(0, 2), 2);
        Check.due("corridor(17, 2)", d.corridor(17, 2), 3);
        Check.due("the next one has no lock", d.addCorridor(0, 1), 18);
        Check.due("corridor(18, 2)", d.corridor(18, 2), NONE);
    }

    private static void laterCorridors() {
        for (int removed = 0; removed < 4; removed++) {
            DungeonBuilder d = Makers.star(5);
            d.removeCorridor(removed);
            for (int c = 0; c < 3; c++) {
                Check.due("corridor(" + c + ", 1) without " + removed, d.corridor(c, 1), c < removed ? c + 1 : c + 2);
            }
            Check.due("corridor(3, 1)", d.corridor(3, 1), NO_SUCH_ELEMENT);
        }
    }

    private static void removeAll() {
        DungeonBuilder d = Makers.bareFull();
        for (int corridors = 19; corridors >= 0; corridors--) {
            Check.due("removeCorridor(0)", d.removeCorridor(0), corridors);
            Check.due("count(1)", d.count(1), corridors);
        }
        Check.due("removeCorridor(0) without corridors", d.removeCorridor(0), NO_SUCH_ELEMENT);
        Check.due("count(0)", d.count(0), 12);
    }

    private static void removeNone() {
        Twins.unchanged("removeCorridor(0) without any", Makers::emptyWithText, d -> d.removeCorridor(0),
                NO_SUCH_ELEMENT);
        Twins.unchanged("removeCorridor(4) of 4", Makers::rich, d -> d.removeCorridor(4), NO_SUCH_ELEMENT);
        Twins.unchanged("removeCorridor(-1)", Makers::rich, d -> d.removeCorridor(-1), NO_SUCH_ELEMENT);
        Twins.unchanged("removeCorridor(20) of 20", Makers::full, d -> d.removeCorridor(20), NO_SUCH_ELEMENT);
        Twins.unchanged("removeCorridor(MIN)", Makers::full, d -> d.removeCorridor(MIN), NO_SUCH_ELEMENT);
        Twins.unchanged("removeCorridor(MAX)", Makers::full, d -> d.removeCorridor(MAX), NO_SUCH_ELEMENT);
    }

    private static void curves() {
        DungeonBuilder d = Makers.line(2);
        int previous = 0;
        for (int curve : new int[] {0, 2, 2, 1, 0, 1, 2, 0}) {
            Check.due("setCurve(" + curve + ")", d.setCurve(curve), previous);
            Check.due("difficulty(1)", d.difficulty(1), new int[] {10, 2, 91}[curve]);
            previous = curve;
        }
    }

    private static void curveAtFirst() {
        Check.due("setCurve(1) of a new object", new DungeonBuilder().setCurve(1), 0);
        Check.due("difficulty(1)", Makers.line(2).difficulty(1), 10);
    }

    private static void badCurve() {
        for (int curve : new int[] {-1, 3, MIN, MAX}) {
            Twins.unchanged("setCurve(" + curve + ") of none", Makers::emptyWithText, d -> d.setCurve(curve), BAD_VALUE);
            Twins.unchanged("setCurve(" + curve + ")", Makers::rich, d -> d.setCurve(curve), BAD_VALUE);
        }
    }

    private static void lowerAndHigher() {
        DungeonBuilder d = Makers.grid(12);
        d.addCorridor(11, 0);
        d.addCorridor(0, 10);
        Check.row("corridor(0, what)", what -> d.corridor(0, what), 0, 11);
        Check.row("corridor(1, what)", what -> d.corridor(1, what), 0, 10);
    }

    private static void lockOfACorridor() {
        DungeonBuilder d = Makers.line(2);
        Check.due("corridor(0, 2)", d.corridor(0, 2), NONE);
        for (int color = 0; color <= 5; color++) {
            d.setLock(0, color);
            Check.due("corridor(0, 2)", d.corridor(0, 2), color);
        }
        d.setLock(0, -1);
        Check.due("corridor(0, 2)", d.corridor(0, 2), NONE);
    }

    private static void noSuchCorridor() {
        for (int corridor : new int[] {-1, 4, 20, MIN, MAX}) {
            for (int what : new int[] {0, 3, 4, -1}) {
                Twins.unchanged("corridor(" + corridor + ", " + what + ")", Makers::rich, d -> d.corridor(corridor, what),
                        NO_SUCH_ELEMENT);
            }
        }
        Check.due("corridor(0, 0) without any", new DungeonBuilder().corridor(0, 0), NO_SUCH_ELEMENT);
        Check.due("corridor(0, 4) without any", new DungeonBuilder().corridor(0, 4), NO_SUCH_ELEMENT);
        Check.due("corridor(20, 0) of 20", Makers.bareFull().corridor(20, 0), NO_SUCH_ELEMENT);
        Check.due("corridor(19, 0) of 20", Makers.bareFull().corridor(19, 0), 1);
    }

    private static void noSuchNumberOfACorridor() {
        for (int what : new int[] {-1, 4, MIN, MAX}) {
            Twins.unchanged("corridor(3, " + what + ")", Makers::rich, d -> d.corridor(3, what), BAD_VALUE);
        }
    }

    private static void betweenNoSuchRooms() {
        for (int room : new int[] {-1, 5, 12, MIN, MAX}) {
            Twins.unchanged("between(" + room + ", 0)", Makers::rich, d -> d.between(room, 0), NO_SUCH_ELEMENT);
            Twins.unchanged("between(0, " + room + ")", Makers::rich, d -> d.between(0, room), NO_SUCH_ELEMENT);
            Twins.unchanged("between(" + room + " twice)", Makers::rich, d -> d.between(room, room), NO_SUCH_ELEMENT);
        }
        Check.due("between(0, 0) without rooms", new DungeonBuilder().between(0, 0), NO_SUCH_ELEMENT);
        Check.due("between(0, 12) of 12", Makers.bareFull().between(0, 12), NO_SUCH_ELEMENT);
    }

    private static void betweenRooms() {
        DungeonBuilder d = Makers.bareFull();
        Check.due("between(0, 1)", d.between(0, 1), 0);
        Check.due("between(1, 0)", d.between(1, 0), 0);
        Check.due("between(1, 10)", d.between(1, 10), 19);
        Check.due("between(10, 1)", d.between(10, 1), 19);
        Check.due("between(1, 11)", d.between(1, 11), NONE);
        Check.due("between(11, 1)", d.between(11, 1), NONE);
        for (int room = 0; room < 12; room++) {
            Check.due("between(" + room + " twice)", d.between(room, room), NONE);
        }
        Check.due("between(0, 0) of one room", Makers.grid(1).between(0, 0), NONE);
    }
}
