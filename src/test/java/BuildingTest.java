/** Promise 9, with dungeons that another program, written for this alone, has worked out, and with the model's. */
public final class BuildingTest {
    private static final int BAD_VALUE = -102;
    private static final int NONE = -104;

    public static void main(String[] args) {
        promise9Rooms();
        promise9Corridors();
        promise9WrongLevels();
        promise9WhatIsRemoved();
        promise9WhatStays();
        promise9ManySeeds();
        Check.end();
    }

    private static void rooms(int seed, int levels, int... rooms) {
        String name = "build(" + seed + ", " + levels + ")";
        DungeonBuilder d = new DungeonBuilder();
        Check.due(name, d.build(seed, levels), rooms.length / 4);
        Check.due(name + ": count(0)", d.count(0), rooms.length / 4);
        for (int i = 0; i < rooms.length; i++) {
            Check.due(name + ": room(" + i / 4 + ", " + i % 4 + ")", d.room(i / 4, i % 4), rooms[i]);
        }
    }

    private static void promise9Rooms() {
        rooms(0, 0, 9, 2, 3, 3);
        rooms(3, 0, 5, 6, 10, 6);
        rooms(1, 1, 2, 3, 8, 10, 19, 1, 3, 6);
        rooms(-1, 2, 2, 5, 5, 4, 18, 4, 5, 6, 5, 12, 11, 3, 20, 12, 3, 3);
        rooms(Integer.MIN_VALUE, 3, 1, 1, 5, 4, 2, 7, 5, 3, 1, 12, 4, 3, 9, 1, 4, 4, 9, 7, 4, 7, 17, 1, 6, 7,
                15, 11, 7, 4);
        rooms(Integer.MAX_VALUE, 4, 3, 1, 3, 4, 2, 7, 5, 3, 9, 1, 3, 3, 9, 7, 4, 3, 15, 1, 3, 7, 20, 5, 3, 4,
                1, 12, 4, 3, 7, 12, 5, 3, 14, 12, 3, 3, 20, 12, 3, 3);
        rooms(1, 5, 1, 1, 4, 4, 8, 2, 3, 3, 14, 1, 3, 4, 3, 7, 4, 3, 2, 12, 4, 3, 9, 7, 3, 3, 9, 12, 3, 3,
                14, 7, 3, 3, 14, 12, 3, 3, 20, 1, 3, 3, 20, 7, 3, 3, 19, 12, 4, 3);
    }

    private static void corridors(int seed, int levels, int... pairs) {
        String name = "build(" + seed + ", " + levels + ")";
        DungeonBuilder d = new DungeonBuilder();
        d.build(seed, levels);
        Check.due(name + ": count(1)", d.count(1), pairs.length / 2);
        for (int i = 0; i < pairs.length; i++) {
            Check.due(name + ": corridor(" + i / 2 + ", " + i % 2 + ")", d.corridor(i / 2, i % 2), pairs[i]);
        }
    }

    private static void promise9Corridors() {
        corridors(0, 0);
        corridors(1, 1, 0, 1);
        corridors(-1, 2, 0, 1, 2, 3, 1, 3);
        corridors(Integer.MIN_VALUE, 3, 0, 1, 1, 2, 3, 4, 5, 6, 3, 5, 0, 3);
        corridors(Integer.MAX_VALUE, 4, 0, 1, 2, 3, 4, 5, 2, 4, 0, 2, 6, 7, 8, 9, 7, 8, 1, 6);
        corridors(1, 5, 1, 2, 0, 1, 3, 4, 5, 6, 7, 8, 5, 7, 3, 5, 2, 7, 9, 10, 10, 11, 7, 10);
    }

    private static void promise9WrongLevels() {
        DungeonBuilder d = new DungeonBuilder();
        d.build(1, 5);
        String before = Check.picture(d);
        for (int levels : new int[] {-1, 6, Integer.MIN_VALUE, Integer.MAX_VALUE}) {
            Check.due("build(2, " + levels + ")", d.build(2, levels), BAD_VALUE);
        }
        Check.holds("nothing has changed", before.equals(Check.picture(d)));
        Check.due("only the first can be undone", d.undo(), 0);
    }

    private static void promise9WhatIsRemoved() {
        DungeonBuilder d = EditingTest.grid(12, 0, 1, 0, 2, 0, 3);
        for (int room = 0; room < 12; room++) {
            d.setKey(room, 3);
        }
        for (int c = 0; c < 3; c++) {
            d.setLock(c, 4);
        }
        d.setEntrance(5);
        Check.due("build(1, 5)", d.build(1, 5), 12);
        Check.due("corridors", d.count(1), 11);
        Check.due("locks", d.count(2), 0);
        Check.due("keys", d.count(3), 0);
        Check.due("entrance", d.entrance(), 0);
        Check.due("build(0, 0)", d.build(0, 0), 1);
        Check.due("corridors", d.count(1), 0);
    }

    private static void promise9WhatStays() {
        DungeonBuilder d = new DungeonBuilder();
        d.addRoom(0, 0, 2, 2);
        d.setCurve(2);
        d.save();
        Check.write(d, "x");
        d.read();
        Check.write(d, "e0");
        d.build(1, 5);
        Check.due("the curve stays", d.setCurve(2), 2);
        Check.due("the text stays", d.count(9), 2);
        Check.due("the fault position stays", d.faultPosition(), 0);
        Check.due("the text is read", d.read(), 1);
        Check.due("the fault position", d.faultPosition(), NONE);
        Check.due("the copy stays", d.restore(), 1);
    }

    private static void promise9ManySeeds() {
        DungeonBuilder d = new DungeonBuilder();
        for (int i = 0; i < 6000 && Check.clean(); i++) {
            int seed = i * 715827883;
            int levels = i % 6;
            d = i % 6 == 0 ? new DungeonBuilder() : d;
            Model model = new Model();
            Check.due("build(" + seed + ", " + levels + ")", d.build(seed, levels), model.build(seed, levels));
            same("build(" + seed + ", " + levels + ")", d, model.now);
        }
    }

    private static void same(String name, DungeonBuilder d, Model.Dungeon due) {
        int c = Math.min(d.count(1), due.corridors.size());
        boolean same = d.count(1) == due.corridors.size() && d.count(0) == due.rooms.size();
        for (int room = 0; same && room < due.rooms.size(); room++) {
            Model.Room r = due.rooms.get(room);
            same = d.room(room, 0) == r.x() && d.room(room, 1) == r.y() && d.room(room, 2) == r.w()
                    && d.room(room, 3) == r.h();
        }
        for (int i = 0; i < c; i++) {
            same &= d.corridor(i, 0) == due.corridors.get(i).a() && d.corridor(i, 1) == due.corridors.get(i).b();
        }
        Check.holds(name + " is as the model's", same);
    }
}
