import java.util.function.Supplier;

/** Builders in states that tests begin with; each call makes the same again. */
final class Makers {
    private Makers() {
    }

    static DungeonBuilder empty() {
        return new DungeonBuilder();
    }

    /** Nothing is there, but a text that was faulty and one that is not read yet. */
    static DungeonBuilder emptyWithText() {
        DungeonBuilder d = new DungeonBuilder();
        Check.write(d, "r0,0,2,2;");
        d.read();
        Check.write(d, "r0,0,2,2");
        return d;
    }

    /**
     * Five rooms, of which 1 is the entrance, on a line 0-1-2-3-4 with two locks and two keys, by curve 1; more than six
     * changes, an older copy, a fault at 3 and a text that is not read yet.
     */
    static DungeonBuilder rich() {
        DungeonBuilder d = richWithoutText();
        Check.write(d, "k0,1;e2");
        return d;
    }

    static DungeonBuilder richWithoutText() {
        DungeonBuilder d = new DungeonBuilder();
        Check.write(d, "r0,0,2,3;r4,0,3,2;r8,1,5,4;r16,0,7,3;r16,4,4,8;c0,1;c1,2");
        d.read();
        d.setEntrance(1);
        d.save();
        d.addCorridor(2, 3);
        d.addCorridor(3, 4);
        d.setLock(1, 2);
        d.setKey(1, 2);
        d.setCurve(1);
        d.setKey(3, 5);
        d.setLock(3, 0);
        Check.write(d, "e0;x");
        d.read();
        return d;
    }

    /** Twelve rooms and twenty corridors, with locks, keys, a copy, a fault at 0 and a text that is not read yet. */
    static DungeonBuilder full() {
        DungeonBuilder d = fullWithoutText();
        Check.write(d, "e1;e2");
        return d;
    }

    static DungeonBuilder fullWithoutText() {
        DungeonBuilder d = bareFull();
        d.setKey(11, 5);
        d.setLock(0, 5);
        d.setLock(19, 0);
        d.save();
        d.setEntrance(3);
        d.setCurve(2);
        d.setKey(2, 1);
        Check.write(d, "x");
        d.read();
        return d;
    }

    /** Rooms of 2 by 2, six in a row, with the centers (4 i + 1, 8 j + 1). */
    static DungeonBuilder grid(int rooms) {
        DungeonBuilder d = new DungeonBuilder();
        for (int i = 0; i < rooms; i++) {
            d.addRoom(i % 6 * 4, i / 6 * 8, 2, 2);
        }
        return d;
    }

    /** Such rooms, and corridors given as pairs of rooms. */
    static DungeonBuilder grid(int rooms, int... pairs) {
        DungeonBuilder d = grid(rooms);
        for (int i = 0; i < pairs.length; i += 2) {
            d.addCorridor(pairs[i], pairs[i + 1]);
        }
        return d;
    }

    /** A line 0-1-2 and so on. */
    static DungeonBuilder line(int rooms) {
        DungeonBuilder d = grid(rooms);
        for (int i = 1; i < rooms; i++) {
            d.addCorridor(i - 1, i);
        }
        return d;
    }

    /** Room 0 with a corridor to each other one. */
    static DungeonBuilder star(int rooms) {
        DungeonBuilder d = grid(rooms);
        for (int i = 1; i < rooms; i++) {
            d.addCorridor(0, i);
        }
        return d;
    }

    /** Corridors between all rooms. */
    static DungeonBuilder complete(int rooms) {
        DungeonBuilder d = grid(rooms);
        for (int a = 0; a < rooms; a++) {
            for (int b = a + 1; b < rooms; b++) {
                d.addCorridor(a, b);
            }
        }
        return d;
    }

    /** As many rooms and corridors as there can be: 0 has corridors to all, 1 to all but 11. */
    static DungeonBuilder bareFull() {
        DungeonBuilder d = star(12);
        for (int b = 2; b < 11; b++) {
            d.addCorridor(1, b);
        }
        return d;
    }

    /** What a maker makes, and one thing more. */
    static Supplier<DungeonBuilder> then(Supplier<DungeonBuilder> made,
            java.util.function.Consumer<DungeonBuilder> more) {
        return () -> {
            DungeonBuilder d = made.get();
            more.accept(d);
            return d;
        };
    }
}
