import java.math.BigInteger;

/**
 * The edges of what the document says of random numbers, of building and of what is added by itself: promises 9 to 11.
 * The rooms and corridors that are due for a seed come from a program in another language, written for this alone.
 */
public final class EdgesOfBuildingTest {
    private static final int BAD_VALUE = -102;
    private static final int FULL = -103;
    private static final int NONE = -104;
    private static final int STATE = -105;
    private static final int MIN = Integer.MIN_VALUE;
    private static final int MAX = Integer.MAX_VALUE;

    public static void main(String[] args) {
        Check.words("the state becomes the state times 1103515245 plus 12345, as an int",
                EdgesOfBuildingTest::stateWrapsAround);
        Check.words("the seed, any int", EdgesOfBuildingTest::anySeed);
        Check.words("the number of levels, 0 to 5", EdgesOfBuildingTest::levels);
        Check.words("build: BAD_VALUE", EdgesOfBuildingTest::badLevels);
        Check.words("A part of a level that is less than the number of levels is cut",
                EdgesOfBuildingTest::lessThanTheLevels);
        Check.words("is cut if its width is at least 10, with a height of 9", EdgesOfBuildingTest::widthOfTen);
        Check.words("is cut if its height is at least 10, with a width of 9", EdgesOfBuildingTest::heightOfTen);
        Check.words("a part of 9 by 9 is not cut", EdgesOfBuildingTest::nineByNine);
        Check.words("if both are, a number is drawn from 2: with a width of 10", EdgesOfBuildingTest::bothWithWidthOfTen);
        Check.words("if both are, a number is drawn from 2: with a height of 10",
                EdgesOfBuildingTest::bothWithHeightOfTen);
        Check.words("a left and a right part if it is 0, an upper and a lower one if it is 1",
                EdgesOfBuildingTest::directions);
        Check.words("otherwise it is cut in the direction that is at least 10", EdgesOfBuildingTest::theOtherDirection);
        Check.words("The size of the first part is 5 plus a number: the least and the greatest",
                EdgesOfBuildingTest::firstParts);
        Check.words("3 plus a number drawn from w - 4, for a part of 5: always 3", EdgesOfBuildingTest::leastParts);
        Check.words("the width, but at most 12", EdgesOfBuildingTest::widthAtMostTwelve);
        Check.words("its height, but at most 12", EdgesOfBuildingTest::heightAtMostTwelve);
        Check.words("building up to 12 rooms", EdgesOfBuildingTest::twelveRooms);
        Check.words("of several the lowest room of the first part", EdgesOfBuildingTest::lowestOfTheFirstPart);
        Check.words("then the lowest one of the second part", EdgesOfBuildingTest::lowestOfTheSecondPart);
        Check.words("the lowest room of the first part before that of the second part",
                EdgesOfBuildingTest::firstPartBeforeSecond);
        Check.words("everything is removed, including locks and keys, the entrance is room 0",
                EdgesOfBuildingTest::everythingIsRemoved);
        Check.words("everything is removed: building after building", EdgesOfBuildingTest::builtAgain);
        Check.words("Building leaves the curve and the text as they are", EdgesOfBuildingTest::curveAndText);
        Check.words("addLoop: NONE if all rooms have corridors between them", EdgesOfBuildingTest::noLoop);
        Check.words("addLoop: FULL if there are 20 corridors", EdgesOfBuildingTest::fullOfLoops);
        Check.words("the two rooms that have the least distance, of their centers", EdgesOfBuildingTest::leastDistance);
        Check.words("of several those with the lowest lower number", EdgesOfBuildingTest::lowestLower);
        Check.words("then the lowest higher number", EdgesOfBuildingTest::lowestHigher);
        Check.words("the two rooms, where they are as far apart as can be", EdgesOfBuildingTest::greatestDistance);
        Check.words("placeLock: NONE if there is no candidate", EdgesOfBuildingTest::noCandidate);
        Check.words("placeLock: FULL if there is no color left", EdgesOfBuildingTest::noColor);
        Check.words("NONE (checked first); FULL", EdgesOfBuildingTest::noneBeforeFull);
        Check.words("placeLock: STATE if there is no room for the key", EdgesOfBuildingTest::noRoomForTheKey);
        Check.words("FULL (checked second); STATE", EdgesOfBuildingTest::fullBeforeState);
        Check.words("the far side, where locks do not matter", EdgesOfBuildingTest::farSideBehindLocks);
        Check.words("a far side with at least one room", EdgesOfBuildingTest::atLeastOneRoom);
        Check.words("the difference is least, of several the lowest one", EdgesOfBuildingTest::leastDifference);
        Check.words("and the number of all rooms, with those out of reach", EdgesOfBuildingTest::allRooms);
        Check.words("The color is the lowest one that no lock and no key has", EdgesOfBuildingTest::lowestColor);
        Check.words("the first lock to the last color", EdgesOfBuildingTest::sixLocks);
        Check.words("rooms that have no key", EdgesOfBuildingTest::roomsWithoutKey);
        Check.words("and that a visit would reach if this corridor were not there",
                EdgesOfBuildingTest::roomsThatAVisitReaches);
        Check.words("the one with the greatest depth, of several the lowest one", EdgesOfBuildingTest::greatestDepth);
        Check.end();
    }

    private static void built(int seed, int levels, int[] rooms, int... corridors) {
        String name = "build(" + seed + ", " + levels + ")";
        DungeonBuilder d = new DungeonBuilder();
        Check.due(name, d.build(seed, levels), rooms.length / 4);
        Check.due(name + ": count(0)", d.count(0), rooms.length / 4);
        Check.due(name + ": count(1)", d.count(1), corridors.length / 2);
        for (int i = 0; i < rooms.length; i++) {
            Check.due(name + ": room(" + i / 4 + ", " + i % 4 + ")", d.room(i / 4, i % 4), rooms[i]);
        }
        for (int i = 0; i < corridors.length; i++) {
            Check.due(name + ": corridor(" + i / 2 + ", " + i % 2 + ")", d.corridor(i / 2, i % 2), corridors[i]);
        }
    }

    private static int[] rooms(int... numbers) {
        return numbers;
    }

    /** One room on the whole map, by numbers that do not wrap around by themselves. */
    private static void oneRoom(int seed) {
        BigInteger state = BigInteger.valueOf(seed).mod(BigInteger.TWO.pow(32));
        int[] from = {20, 12, 0, 0};
        int[] drawn = new int[4];
        for (int i = 0; i < 4; i++) {
            BigInteger next = state.multiply(BigInteger.valueOf(1103515245)).add(BigInteger.valueOf(12345));
            state = next.mod(BigInteger.TWO.pow(32));
            BigInteger number = state.shiftRight(16).mod(BigInteger.TWO.pow(15));
            drawn[i] = number.mod(BigInteger.valueOf(from[i])).intValue();
            if (i < 2) {
                drawn[i] = Math.min(12, 3 + drawn[i]);
                from[i + 2] = (i == 0 ? 24 : 16) - drawn[i] - 1;
            }
        }
        built(seed, 0, rooms(1 + drawn[2], 1 + drawn[3], drawn[0], drawn[1]));
    }

    private static void stateWrapsAround() {
        for (int i = 1; i <= 500; i++) {
            oneRoom(i * 8589935);
            oneRoom(-i * 8589935);
        }
    }

    private static void anySeed() {
        for (int near = -100; near <= 100; near++) {
            oneRoom(near);
            oneRoom(MIN + near);
        }
        oneRoom(MAX);
        oneRoom(1 << 16);
        oneRoom(-1 << 16);
        oneRoom(1103515245);
    }

    private static void levels() {
        int[] due = {1, 2, 4, 6, 8, 9};
        for (int levels = 0; levels <= 5; levels++) {
            DungeonBuilder d = new DungeonBuilder();
            Check.due("build(217, " + levels + ")", d.build(217, levels), due[levels]);
            Check.due("corridors", d.count(1), due[levels] - 1);
        }
    }

    private static void badLevels() {
        for (int levels : new int[] {-1, 6, MIN, MAX}) {
            Twins.unchanged("build(1, " + levels + ") of none", Makers::emptyWithText, d -> d.build(1, levels),
                    BAD_VALUE);
            Twins.unchanged("build(1, " + levels + ")", Makers::rich, d -> d.build(1, levels), BAD_VALUE);
            Twins.unchanged("build(1, " + levels + ") among 12", Makers::full, d -> d.build(1, levels), BAD_VALUE);
        }
    }

    /** With 5 levels the part of the columns 14 to 18 and the rows 0 to 9 is cut, which is of level 4. */
    private static void lessThanTheLevels() {
        built(217, 5, rooms(1, 1, 3, 7, 1, 12, 3, 3, 7, 1, 6, 6, 8, 10, 4, 5, 15, 1, 3, 3, 15, 6, 3, 3, 15, 12, 3, 3,
                20, 2, 3, 3, 20, 11, 3, 4), 0, 1, 2, 3, 4, 5, 5, 6, 7, 8, 6, 8, 3, 6, 0, 2);
        built(217, 4, rooms(1, 1, 3, 3, 1, 10, 3, 3, 6, 4, 5, 3, 10, 11, 3, 3, 15, 4, 3, 3, 15, 12, 3, 3, 20, 1, 3,
                3, 20, 8, 3, 7), 0, 1, 2, 3, 4, 5, 6, 7, 5, 7, 3, 5, 0, 2);
    }

    /** The columns 0 to 9 and the rows 0 to 8. */
    private static void widthOfTen() {
        built(238, 3, rooms(1, 4, 3, 4, 6, 1, 3, 6, 12, 1, 3, 3, 20, 2, 3, 3, 1, 11, 7, 4, 10, 10, 5, 5, 18, 10, 5, 5),
                0, 1, 2, 3, 1, 2, 5, 6, 4, 5, 0, 4);
    }

    /** The columns 15 to 23 and the rows 6 to 15. */
    private static void heightOfTen() {
        built(65, 3, rooms(1, 1, 7, 4, 11, 1, 3, 5, 1, 10, 5, 5, 10, 11, 4, 4, 18, 1, 5, 4, 16, 7, 7, 3, 16, 12, 6, 3),
                0, 1, 2, 3, 0, 2, 5, 6, 4, 5, 3, 6);
    }

    /** The columns 15 to 23 and the rows 7 to 15, with a level to go. */
    private static void nineByNine() {
        built(9, 3, rooms(2, 1, 4, 4, 10, 1, 4, 6, 2, 9, 5, 6, 10, 11, 4, 4, 17, 2, 6, 4, 17, 8, 3, 7),
                0, 1, 2, 3, 0, 2, 4, 5, 1, 4);
    }

    /** The columns 0 to 9 and all rows. */
    private static void bothWithWidthOfTen() {
        built(21, 2, rooms(1, 1, 3, 12, 6, 3, 3, 12, 18, 1, 3, 3, 11, 11, 9, 3), 0, 1, 2, 3, 1, 3);
    }

    /** All columns and the rows 6 to 15. */
    private static void bothWithHeightOfTen() {
        built(5, 2, rooms(4, 1, 11, 3, 17, 1, 3, 4, 2, 7, 12, 3, 14, 12, 8, 3), 0, 1, 2, 3, 0, 2);
    }

    private static void directions() {
        built(6, 1, rooms(1, 2, 3, 3, 7, 5, 7, 8), 0, 1);
        built(29, 1, rooms(8, 1, 12, 3, 3, 12, 12, 3), 0, 1);
    }

    /** Parts of 9 columns are cut in rows, parts of 9 rows in columns, without a number for the direction. */
    private static void theOtherDirection() {
        built(9, 2, rooms(7, 2, 7, 4, 2, 9, 12, 4, 17, 2, 6, 4, 20, 10, 3, 3), 0, 1, 2, 3, 0, 2);
        built(3, 2, rooms(1, 2, 3, 4, 15, 1, 5, 4, 2, 8, 3, 3, 17, 8, 5, 7), 0, 1, 2, 3, 0, 2);
    }

    /** The map is cut after 5 and after 19 columns, after 5 and after 11 rows. */
    private static void firstParts() {
        built(6, 1, rooms(1, 2, 3, 3, 7, 5, 7, 8), 0, 1);
        built(8, 1, rooms(5, 7, 12, 4, 20, 6, 3, 7), 0, 1);
        built(29, 1, rooms(8, 1, 12, 3, 3, 12, 12, 3), 0, 1);
        built(30, 1, rooms(18, 2, 3, 6, 2, 12, 12, 3), 0, 1);
    }

    /** The first part has 5 columns, then the second one; the number is drawn although it can only be 0. */
    private static void leastParts() {
        built(6, 1, rooms(1, 2, 3, 3, 7, 5, 7, 8), 0, 1);
        built(8, 1, rooms(5, 7, 12, 4, 20, 6, 3, 7), 0, 1);
        built(19, 4, rooms(1, 1, 3, 3, 6, 1, 3, 3, 1, 6, 3, 3, 7, 6, 3, 3, 2, 12, 3, 3, 7, 11, 3, 4, 12, 2, 4, 3, 18,
                1, 4, 3, 12, 7, 4, 3, 13, 12, 3, 3, 19, 7, 3, 3, 19, 12, 4, 3),
                0, 1, 2, 3, 4, 5, 3, 5, 0, 2, 6, 7, 8, 9, 10, 11, 8, 10, 6, 8, 5, 9);
    }

    /** For the first one, 3 and the number are 12, for the second one 13. */
    private static void widthAtMostTwelve() {
        built(16, 0, rooms(10, 2, 12, 8));
        built(13, 0, rooms(7, 2, 12, 8));
    }

    /** For the first one, 3 and the number are 12, for the second one more. */
    private static void heightAtMostTwelve() {
        built(5, 0, rooms(2, 3, 12, 12));
        built(1, 0, rooms(5, 2, 12, 12));
    }

    private static void twelveRooms() {
        DungeonBuilder d = new DungeonBuilder();
        Check.due("build(19, 5)", d.build(19, 5), 12);
        Check.due("corridors", d.count(1), 11);
        Check.due("groups", d.count(7), 1);
        Check.due("the thirteenth room", d.addRoom(22, 0, 2, 2), FULL);
        Check.due("build(1, 5) where there are 12", d.build(1, 5), 12);
    }

    /** Rooms 0 and 1 are as far from room 2. */
    private static void lowestOfTheFirstPart() {
        built(1, 2, rooms(5, 1, 12, 3, 3, 11, 12, 4, 20, 1, 3, 7, 19, 12, 4, 3), 0, 1, 2, 3, 0, 2);
    }

    /** Rooms 2 and 3 are as far from room 1. */
    private static void lowestOfTheSecondPart() {
        built(165, 2, rooms(1, 3, 6, 12, 11, 2, 6, 11, 20, 1, 3, 5, 20, 8, 3, 7), 0, 1, 2, 3, 1, 2);
    }

    /** Rooms 0 and 3 are as far from each other as rooms 1 and 2. */
    private static void firstPartBeforeSecond() {
        built(108, 2, rooms(20, 1, 3, 3, 3, 6, 12, 3, 11, 11, 5, 4, 19, 11, 4, 3), 0, 1, 2, 3, 0, 3);
    }

    private static void everythingIsRemoved() {
        DungeonBuilder d = Makers.full();
        for (int c = 0; c < 20; c++) {
            d.setLock(c, 1);
        }
        for (int room = 0; room < 12; room++) {
            d.setKey(room, 2);
        }
        Check.due("build(1, 5)", d.build(1, 5), 12);
        Check.due("corridors", d.count(1), 11);
        Check.due("locks", d.count(2), 0);
        Check.due("keys", d.count(3), 0);
        Check.due("entrance()", d.entrance(), 0);
        d.setEntrance(11);
        Check.due("build(1, 0)", d.build(1, 0), 1);
        Check.due("corridors", d.count(1), 0);
        Check.due("entrance()", d.entrance(), 0);
        Check.due("build(1, 0) where nothing was", new DungeonBuilder().build(1, 0), 1);
    }

    /** What is built does not depend on what was built or added before. */
    private static void builtAgain() {
        int[][] all = {{19, 5}, {1, 5}, {217, 5}, {217, 1}, {1, 0}, {9, 3}, {5, 2}, {217, 4}, {6, 1}};
        for (int[] first : all) {
            for (int[] then : all) {
                DungeonBuilder d = new DungeonBuilder();
                d.build(first[0], first[1]);
                d.addLoop();
                d.build(then[0], then[1]);
                DungeonBuilder alone = new DungeonBuilder();
                alone.build(then[0], then[1]);
                String due = Check.picture(alone);
                Check.holds("build(" + then[0] + ", " + then[1] + ") is as alone", due.equals(Check.picture(d)));
            }
        }
        for (int seed = 0; seed < 300; seed++) {
            DungeonBuilder d = new DungeonBuilder();
            d.build(seed, 5);
            d.build(-seed, 1 + seed % 3);
            DungeonBuilder alone = new DungeonBuilder();
            alone.build(-seed, 1 + seed % 3);
            String due = Check.picture(alone);
            Check.holds("build(" + -seed + ") is as alone", due.equals(Check.picture(d)));
        }
    }

    private static void curveAndText() {
        for (int curve = 0; curve <= 2; curve++) {
            DungeonBuilder d = Makers.rich();
            d.setCurve(curve);
            d.build(1, 5);
            Check.due("the text", d.count(9), 7);
            Check.due("the fault position", d.faultPosition(), 3);
            Check.due("the curve", d.setCurve(0), curve);
            Check.due("read() of the text k0,1;e2", d.read(), 2);
            Check.due("the entrance", d.entrance(), 2);
        }
    }

    private static void noLoop() {
        Twins.unchanged("addLoop() without rooms", Makers::emptyWithText, DungeonBuilder::addLoop, NONE);
        for (int rooms = 0; rooms <= 6; rooms++) {
            int all = rooms;
            Twins.unchanged("addLoop() among " + rooms, () -> Makers.complete(all), DungeonBuilder::addLoop, NONE);
        }
        for (int rooms = 2; rooms <= 6; rooms++) {
            DungeonBuilder d = Makers.complete(rooms);
            int corridors = d.count(1);
            d.removeCorridor(corridors - 1);
            Check.due("addLoop() for the last pair", d.addLoop(), corridors - 1);
            Check.due("between", d.between(rooms - 2, rooms - 1), corridors - 1);
            Check.due("addLoop()", d.addLoop(), NONE);
        }
    }

    private static void fullOfLoops() {
        Twins.unchanged("addLoop() among 20", Makers::full, DungeonBuilder::addLoop, FULL);
        Twins.unchanged("addLoop() for the last pair of 7", () -> Makers.complete(7), DungeonBuilder::addLoop, FULL);
        DungeonBuilder d = Makers.grid(7);
        for (int i = 0; i < 20; i++) {
            Check.due("addLoop()", d.addLoop(), i);
        }
        Check.due("the 21st", d.addLoop(), FULL);
        d.removeCorridor(7);
        Check.due("again the 20th", d.addLoop(), 19);
    }

    private static void leastDistance() {
        // The centers are (6, 1), (13, 1) and (7, 5): room 1 touches room 0, but room 2 is nearer by its center.
        DungeonBuilder d = Check.made("r0,0,12,2;r12,0,2,2;r6,4,2,2");
        Check.due("addLoop()", d.addLoop(), 0);
        Check.row("its rooms", what -> d.corridor(0, what), 0, 2, NONE);
        Check.due("addLoop()", d.addLoop(), 1);
        Check.row("its rooms", what -> d.corridor(1, what), 0, 1, NONE);
        // Up and to the left is as far as down and to the right.
        DungeonBuilder turned = Check.made("r8,8,2,2;r3,3,2,2;r12,12,2,2;r8,3,2,2");
        turned.addLoop();
        Check.row("its rooms", what -> turned.corridor(0, what), 0, 3);
    }

    private static void lowestLower() {
        DungeonBuilder d = Check.made("r0,0,2,2;r20,0,2,2;r20,4,2,2;r0,4,2,2");
        int[][] due = {{0, 3}, {1, 2}, {0, 1}, {2, 3}, {0, 2}, {1, 3}};
        for (int i = 0; i < 6; i++) {
            Check.due("addLoop()", d.addLoop(), i);
            Check.due("the lower room of loop " + i, d.corridor(i, 0), due[i][0]);
            Check.due("the higher room of loop " + i, d.corridor(i, 1), due[i][1]);
        }
    }

    private static void lowestHigher() {
        DungeonBuilder d = Check.made("r8,8,2,2;r8,12,2,2;r4,8,2,2;r12,8,2,2;r8,4,2,2");
        for (int i = 0; i < 4; i++) {
            Check.due("addLoop()", d.addLoop(), i);
            Check.due("the lower room of loop " + i, d.corridor(i, 0), 0);
            Check.due("the higher room of loop " + i, d.corridor(i, 1), i + 1);
        }
    }

    private static void greatestDistance() {
        DungeonBuilder d = Check.made("r22,14,2,2;r0,0,2,2");
        Check.due("addLoop()", d.addLoop(), 0);
        Check.due("between(0, 1)", d.between(0, 1), 0);
        DungeonBuilder other = Check.made("r22,0,2,2;r0,14,2,2");
        Check.due("addLoop()", other.addLoop(), 0);
    }

    private static void noCandidate() {
        Twins.unchanged("placeLock() without rooms", Makers::emptyWithText, DungeonBuilder::placeLock, NONE);
        Twins.unchanged("placeLock() with one room", () -> Makers.grid(1), DungeonBuilder::placeLock, NONE);
        Twins.unchanged("placeLock() without corridors", () -> Makers.grid(12), DungeonBuilder::placeLock, NONE);
        Twins.unchanged("placeLock() on a ring", () -> Makers.complete(3), DungeonBuilder::placeLock, NONE);
        Twins.unchanged("placeLock() where all is connected", () -> Makers.complete(6), DungeonBuilder::placeLock, NONE);
        Twins.unchanged("placeLock() where all bridges have locks", Makers.then(() -> Makers.line(3), d -> {
            d.setLock(0, 0);
            d.setLock(1, 0);
        }), DungeonBuilder::placeLock, NONE);
        Twins.unchanged("placeLock() out of reach", () -> Makers.grid(4, 1, 2, 2, 3), DungeonBuilder::placeLock, NONE);
    }

    /** A line with the locks of the first colors, without keys, and a bridge without a lock at the end. */
    private static DungeonBuilder lockedLine(int colors) {
        DungeonBuilder d = Makers.line(8);
        for (int color = 0; color < colors; color++) {
            d.setLock(color, color);
        }
        return d;
    }

    /** A line with keys of the first colors in the last rooms. */
    private static DungeonBuilder lineWithKeys(int colors) {
        DungeonBuilder d = Makers.line(8);
        for (int color = 0; color < colors; color++) {
            d.setKey(7 - color, color);
        }
        return d;
    }

    private static void noColor() {
        Twins.unchanged("placeLock() with six colors of locks", () -> lockedLine(6), DungeonBuilder::placeLock, FULL);
        Twins.unchanged("placeLock() with six colors of keys", () -> lineWithKeys(6), DungeonBuilder::placeLock, FULL);
        Twins.unchanged("placeLock() with six colors of both", Makers.then(() -> lockedLine(3), d -> {
            d.setKey(7, 3);
            d.setKey(6, 4);
            d.setKey(5, 5);
        }), DungeonBuilder::placeLock, FULL);
        DungeonBuilder locks = lockedLine(5);
        Check.due("placeLock() with five colors of locks", locks.placeLock(), 5);
        Check.due("the last color", locks.corridor(5, 2), 5);
        DungeonBuilder keys = lineWithKeys(5);
        Check.due("placeLock() with five colors of keys", keys.placeLock(), 3);
        Check.due("the last color", keys.corridor(3, 2), 5);
    }

    private static void noneBeforeFull() {
        Twins.unchanged("placeLock() without candidates and colors", Makers.then(() -> Makers.complete(6), d -> {
            for (int color = 0; color < 6; color++) {
                d.setKey(color, color);
            }
        }), DungeonBuilder::placeLock, NONE);
    }

    private static void noRoomForTheKey() {
        Twins.unchanged("placeLock() with a key in the only room", Makers.then(() -> Makers.line(2), d -> d.setKey(0, 1)),
                DungeonBuilder::placeLock, STATE);
        Twins.unchanged("placeLock() with keys in both rooms", Makers.then(() -> Makers.line(4), d -> {
            d.setKey(0, 1);
            d.setKey(1, 1);
        }), DungeonBuilder::placeLock, STATE);
        Twins.unchanged("placeLock() behind a lock on the near side", Makers.then(() -> Makers.grid(4, 0, 1, 0, 2, 2, 3),
                d -> {
            d.setKey(0, 1);
            d.setLock(0, 5);
        }), DungeonBuilder::placeLock, STATE);
        DungeonBuilder one = Makers.line(4);
        one.setKey(1, 1);
        Check.due("placeLock() with one room left", one.placeLock(), 1);
        Check.due("the room", one.room(0, 4), 0);
    }

    private static void fullBeforeState() {
        Twins.unchanged("placeLock() without colors and rooms", Makers.then(() -> Makers.line(6), d -> {
            for (int color = 0; color < 6; color++) {
                d.setKey(color, color);
            }
        }), DungeonBuilder::placeLock, FULL);
    }

    private static void farSideBehindLocks() {
        DungeonBuilder d = Makers.line(6);
        d.setLock(0, 5);
        d.setLock(2, 4);
        Check.due("placeLock() behind locks", d.placeLock(), 1);
        Check.due("the key comes before the first lock", d.room(0, 4), 0);
        DungeonBuilder ring = Makers.complete(3);
        ring.setLock(0, 5);
        Check.due("a lock opens no ring", ring.placeLock(), NONE);
    }

    private static void atLeastOneRoom() {
        Check.due("placeLock() before one room", Makers.line(2).placeLock(), 0);
        Check.due("behind a ring, one room", Makers.grid(4, 0, 1, 1, 2, 0, 2, 2, 3).placeLock(), 3);
        Check.due("before a ring, all rooms but one", Makers.grid(4, 1, 2, 2, 3, 1, 3, 0, 1).placeLock(), 3);
        DungeonBuilder far = Makers.line(12);
        far.setEntrance(11);
        for (int c = 1; c < 11; c++) {
            far.setLock(c, 0);
        }
        Check.due("one room at the end of a line", far.placeLock(), 0);
    }

    private static void leastDifference() {
        // Two times the far side less the rooms: -3, -1, 1, 3 from the end of five rooms.
        Check.due("of 1 and -1, that of the lowest corridor", Makers.line(5).placeLock(), 1);
        DungeonBuilder turned = Makers.line(5);
        turned.setEntrance(4);
        Check.due("of -1 and 1, that of the lowest corridor", turned.placeLock(), 1);
        Check.due("a difference of 0", Makers.line(6).placeLock(), 2);
        Check.due("all the same", Makers.star(12).placeLock(), 0);
        DungeonBuilder star = Makers.star(12);
        star.setLock(0, 5);
        Check.due("all the same, the first has a lock", star.placeLock(), 1);
        Check.due("the only bridge where all is full", Makers.bareFull().placeLock(), 10);
        DungeonBuilder last = Makers.complete(6);
        last.addRoom(22, 14, 2, 2);
        last.addCorridor(0, 6);
        Check.due("a bridge with a number above those of all rooms", last.placeLock(), 15);
    }

    private static void allRooms() {
        DungeonBuilder d = Makers.grid(12, 0, 1, 1, 2, 2, 3, 3, 4, 4, 5);
        Check.due("five rooms of twelve are nearest to a half", d.placeLock(), 0);
        Check.due("five of six", Makers.grid(6, 0, 1, 1, 2, 2, 3, 3, 4, 4, 5).placeLock(), 2);
    }

    private static void lowestColor() {
        for (int free = 0; free <= 5; free++) {
            DungeonBuilder d = Makers.line(8);
            for (int color = 0; color <= 5; color++) {
                if (color != free) {
                    d.setKey(7 - color, color);
                }
            }
            d.placeLock();
            Check.due("the lock", d.corridor(3, 2), free);
        }
        DungeonBuilder locks = Makers.line(8);
        locks.setLock(0, 0);
        locks.setLock(6, 2);
        locks.placeLock();
        Check.due("the lowest color that no lock has", locks.corridor(3, 2), 1);
    }

    private static void sixLocks() {
        DungeonBuilder d = Makers.line(12);
        int[] due = {5, 4, 6, 3, 7, 2};
        for (int color = 0; color < 6; color++) {
            Check.due("placeLock()", d.placeLock(), due[color]);
            Check.due("its color", d.corridor(due[color], 2), color);
            Check.due("the room of its key", d.room(due[color], 4), color);
        }
        Check.due("the seventh", d.placeLock(), FULL);
        Check.due("isSolvable()", d.isSolvable(), 1);
        Check.due("needed(11)", d.needed(11), 63);
    }

    private static void roomsWithoutKey() {
        DungeonBuilder d = Makers.line(6);
        d.setKey(2, 3);
        Check.due("placeLock()", d.placeLock(), 2);
        Check.due("the deepest room has a key already", d.room(2, 4), 3);
        Check.due("the one before it gets the new one", d.room(1, 4), 0);
        d = Makers.line(6);
        d.setKey(2, 3);
        d.setKey(1, 3);
        d.placeLock();
        Check.due("only the entrance is left", d.room(0, 4), 0);
    }

    private static void roomsThatAVisitReaches() {
        for (int color = 0; color <= 5; color++) {
            DungeonBuilder closed = Makers.grid(4, 0, 1, 0, 2, 2, 3);
            closed.setLock(0, color);
            Check.due("placeLock()", closed.placeLock(), 1);
            Check.due("not behind a lock", closed.room(0, 4), color == 0 ? 1 : 0);
            Check.due("not behind a lock", closed.room(1, 4), NONE);
        }
        DungeonBuilder open = Makers.grid(4, 0, 1, 0, 2, 2, 3);
        open.setLock(0, 5);
        open.setKey(0, 5);
        Check.due("placeLock()", open.placeLock(), 1);
        Check.due("behind a lock with a key", open.room(1, 4), 0);
        DungeonBuilder beyond = Makers.grid(4, 0, 1, 0, 2, 2, 3);
        beyond.setLock(0, 5);
        beyond.setKey(3, 5);
        Check.due("placeLock()", beyond.placeLock(), 1);
        Check.due("the other key lies behind the new lock", beyond.room(0, 4), 0);
    }

    private static void greatestDepth() {
        DungeonBuilder d = Makers.grid(8, 0, 1, 1, 2, 0, 3, 3, 4, 0, 5, 5, 6, 6, 7);
        Check.due("placeLock(): three rooms of eight", d.placeLock(), 4);
        Check.due("of the depths 2, the lowest room", d.room(2, 4), 0);
        DungeonBuilder entrance = Makers.line(2);
        entrance.placeLock();
        Check.due("the entrance, with the depth 0", entrance.room(0, 4), 0);
        DungeonBuilder deep = Makers.line(12);
        deep.setEntrance(11);
        for (int c = 1; c < 11; c++) {
            deep.setLock(c, 5);
        }
        deep.setKey(11, 5);
        Check.due("placeLock()", deep.placeLock(), 0);
        Check.due("the depth 10", deep.room(1, 4), 0);
    }
}
