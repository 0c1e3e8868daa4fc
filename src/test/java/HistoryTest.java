/** Promises 16, 41 and 42: undo, save and restore. */
public final class HistoryTest {
    private static final int NONE = -104;
    private static final int STATE = -105;

    public static void main(String[] args) {
        promise16EveryChange();
        promise16NoChanges();
        promise16TheLatestSix();
        promise16RefusedCalls();
        promise16AfterUndoing();
        promise16NothingChanges();
        promise16TheText();
        promise41Save();
        promise42Restore();
        promise42TheHistory();
        Check.end();
    }

    private static DungeonBuilder dungeon() {
        DungeonBuilder d = Check.made("r0,0,2,3;r4,0,3,2;r8,1,5,4;r16,0,7,3;r16,4,4,8", "c0,1;c1,2;c2,3");
        d.setLock(1, 2);
        d.setKey(1, 2);
        d.setEntrance(1);
        d.setCurve(1);
        return d;
    }

    private static int change(DungeonBuilder d, int which) {
        switch (which) {
            case 0:
                return d.addRoom(0, 8, 3, 5);
            case 1:
                return d.addCorridor(0, 2);
            case 2:
                return d.setLock(1, 3);
            case 3:
                return d.setKey(2, 3);
            case 4:
                return d.setEntrance(2);
            case 5:
                return d.removeRoom(0);
            case 6:
                return d.removeCorridor(0);
            case 7:
                Check.write(d, "r12,8,2,2;e5");
                return d.read();
            case 8:
                return d.build(7, 5);
            case 9:
                return d.addLoop();
            case 10:
                return d.placeLock();
            case 11:
                return d.setCurve(2);
            case 12:
                return d.setLock(1, -1);
            default:
                return d.setKey(1, -1);
        }
    }

    private static void promise16EveryChange() {
        for (int which = 0; which < 14; which++) {
            DungeonBuilder d = dungeon();
            String before = Check.picture(d);
            int answer = change(d, which);
            Check.holds("change " + which + " answers " + answer, answer >= 0 || which == 3 && answer == NONE);
            Check.holds("change " + which + " changes", !before.equals(Check.picture(d)));
            Check.due("undo() of change " + which, d.undo(), 5);
            Check.holds("change " + which + " is undone", before.equals(Check.picture(d)));
        }
    }

    private static void promise16NoChanges() {
        DungeonBuilder d = dungeon();
        d.undo();
        d.save();
        d.append('x');
        d.read();
        Check.write(d, "e9");
        d.read();
        d.append('e');
        d.addRoom(0, 0, 2, 2);
        d.addCorridor(0, 1);
        d.setLock(9, 1);
        d.setLock(0, 9);
        d.setKey(9, 1);
        d.setKey(0, 9);
        d.setEntrance(9);
        d.removeRoom(9);
        d.removeCorridor(9);
        d.build(1, 9);
        d.setCurve(9);
        Check.picture(d);
        Check.due("calls that are no changes", d.undo(), 4);
        Check.due("undo()", d.undo(), 3);
        DungeonBuilder empty = new DungeonBuilder();
        empty.addLoop();
        empty.placeLock();
        Check.due("NONE of addLoop and placeLock is no change", empty.undo(), NONE);
        DungeonBuilder two = EditingTest.grid(2, 0, 1);
        two.setKey(0, 1);
        two.placeLock();
        Check.due("STATE of placeLock is no change", two.undo(), 3);
        Check.due("but the key was one", two.room(0, 4), NONE);
    }

    private static void promise16TheLatestSix() {
        DungeonBuilder d = new DungeonBuilder();
        Check.due("undo() without changes", d.undo(), NONE);
        for (int i = 0; i < 10; i++) {
            d.addRoom(2 * i, 0, 2, 2);
        }
        for (int i = 5; i >= 0; i--) {
            Check.due("undo()", d.undo(), i);
            Check.due("rooms", d.count(0), 4 + i);
        }
        Check.due("undo() of older changes", d.undo(), NONE);
        Check.due("rooms", d.count(0), 4);
    }

    private static void promise16RefusedCalls() {
        for (int changes = 6; changes < 13; changes++) {
            DungeonBuilder d = EditingTest.grid(1);
            for (int i = 0; i < changes; i++) {
                d.setKey(0, i % 6);
            }
            d.setKey(9, 0);
            d.addLoop();
            Check.write(d, "k0,5;e9");
            d.read();
            for (int i = 5; i >= 0; i--) {
                Check.due("undo() after refused calls", d.undo(), i);
            }
            Check.due("the key before six of " + changes, d.room(0, 4), changes == 6 ? NONE : changes - 7);
        }
    }

    private static void promise16AfterUndoing() {
        DungeonBuilder d = new DungeonBuilder();
        for (int i = 0; i < 8; i++) {
            d.addRoom(2 * i, 0, 2, 2);
        }
        Check.due("undo()", d.undo(), 5);
        Check.due("undo()", d.undo(), 4);
        d.setKey(0, 1);
        Check.due("four older changes and a new one", d.undo(), 4);
        for (int i = 3; i >= 0; i--) {
            Check.due("undo()", d.undo(), i);
        }
        Check.due("undo() of older changes", d.undo(), NONE);
        Check.due("rooms", d.count(0), 2);
        d.setKey(0, 2);
        d.setKey(0, 3);
        Check.due("undo() of new changes", d.undo(), 1);
        Check.due("the key", d.room(0, 4), 2);
        for (int i = 0; i < 20; i++) {
            d.setKey(1, i % 6);
        }
        for (int i = 5; i >= 0; i--) {
            Check.due("undo()", d.undo(), i);
            Check.due("the key", d.room(1, 4), (13 + i) % 6);
        }
    }

    private static void promise16NothingChanges() {
        DungeonBuilder d = EditingTest.grid(2, 0, 1);
        d.save();
        d.restore();
        d.setLock(0, -1);
        d.setKey(0, -1);
        d.setEntrance(0);
        d.setCurve(0);
        Check.write(d, "e0;k0,1");
        d.read();
        d.setKey(0, 1);
        for (int i = 5; i >= 0; i--) {
            Check.due("undo() where nothing changed", d.undo(), i);
        }
        Check.due("undo()", d.undo(), NONE);
    }

    private static void promise16TheText() {
        DungeonBuilder d = new DungeonBuilder();
        d.addRoom(0, 0, 2, 2);
        Check.write(d, "k0,3");
        Check.due("undo()", d.undo(), 0);
        Check.due("the text stays", d.count(9), 4);
        d.addRoom(0, 0, 2, 2);
        Check.due("read()", d.read(), 1);
        Check.due("undo()", d.undo(), 1);
        Check.due("the text is not back", d.count(9), 0);
        Check.due("the key is gone", d.room(0, 4), NONE);
    }

    private static void promise41Save() {
        Check.due("save() without rooms", new DungeonBuilder().save(), 0);
        DungeonBuilder d = dungeon();
        Check.due("save()", d.save(), 5);
        String saved = Check.picture(d);
        d.setCurve(2);
        d.build(1, 5);
        Check.due("restore()", d.restore(), 5);
        Check.holds("all is as it was saved", saved.equals(Check.picture(d)));
        Check.due("also the curve", d.setCurve(0), 1);
        d.removeRoom(4);
        Check.due("save() again", d.save(), 4);
        d.removeRoom(0);
        Check.due("restore() of the later copy", d.restore(), 4);
        Check.due("its curve", d.setCurve(0), 0);
        DungeonBuilder undone = dungeon();
        undone.save();
        Check.due("save() is no change and leaves them", undone.undo(), 5);
    }

    private static void promise42Restore() {
        DungeonBuilder d = new DungeonBuilder();
        d.addRoom(0, 0, 2, 2);
        Check.due("restore() of nothing", d.restore(), STATE);
        Check.due("the room stays", d.count(0), 1);
        Check.due("the history stays", d.undo(), 0);
        d.save();
        d.build(1, 5);
        Check.write(d, "e0");
        Check.due("restore() of a dungeon without rooms", d.restore(), 0);
        Check.due("no rooms", d.count(0), 0);
        Check.due("no corridors", d.count(1), 0);
        Check.due("the text stays", d.count(9), 2);
        d.build(1, 5);
        Check.due("the copy remains available", d.restore(), 0);
        d.build(1, 2);
        d.save();
        Check.due("restore()", d.restore(), 4);
        d.setKey(0, 5);
        d.restore();
        Check.due("a change is not in the copy", d.room(0, 4), NONE);
    }

    private static void promise42TheHistory() {
        DungeonBuilder d = dungeon();
        d.save();
        d.setKey(0, 5);
        Check.due("restore()", d.restore(), 5);
        Check.due("undo()", d.undo(), NONE);
        d.setKey(0, 4);
        d.setKey(0, 3);
        Check.due("undo() of changes after restoring", d.undo(), 1);
        Check.due("undo() to what was restored", d.undo(), 0);
        Check.due("the key", d.room(0, 4), NONE);
        Check.due("undo()", d.undo(), NONE);
    }
}
