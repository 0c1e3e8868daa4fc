import java.util.ArrayList;
import java.util.List;
import java.util.function.Consumer;
import java.util.function.Supplier;

/** The edges of what the document says of the history and of the copy: promises 16, 41 and 42. */
public final class EdgesOfHistoryTest {
    private static final int NONE = -104;
    private static final int STATE = -105;

    public static void main(String[] args) {
        Check.words("undo: NONE if there is none", EdgesOfHistoryTest::nothingToUndo);
        Check.words("The latest 6 changes can be undone, the latest first", EdgesOfHistoryTest::latestSix);
        Check.words("Returns the number of changes that can still be undone", EdgesOfHistoryTest::stillToUndo);
        Check.words("Undoes the latest change that was not undone", EdgesOfHistoryTest::notUndone);
        Check.words("Changes that are older than the latest 6 at some time cannot be undone any more",
                EdgesOfHistoryTest::olderChanges);
        Check.words("even after others have been undone", EdgesOfHistoryTest::afterOthers);
        Check.words("the changes, one by one", EdgesOfHistoryTest::everyChange);
        Check.words("read is a change", EdgesOfHistoryTest::readIsChange);
        Check.words("the changes where all is full", EdgesOfHistoryTest::changesWhereAllIsFull);
        Check.words("are changes, also if nothing changes", EdgesOfHistoryTest::nothingChanges);
        Check.words("NONE as the previous color of setLock or setKey is no error code",
                EdgesOfHistoryTest::noPreviousColor);
        Check.words("calls that return an error code are no changes", EdgesOfHistoryTest::refusedCalls);
        Check.words("calls that return an error code push no change out", EdgesOfHistoryTest::refusedCallsAmongSix);
        Check.words("append, save and questions are no changes", EdgesOfHistoryTest::otherCalls);
        Check.words("a text is one change", EdgesOfHistoryTest::textIsOneChange);
        Check.words("The text stays", EdgesOfHistoryTest::textStays);
        Check.words("512 calls", EdgesOfHistoryTest::allCalls);
        Check.words("Saves the dungeon with its curve: returns the number of rooms, 0 to 12", EdgesOfHistoryTest::saves);
        Check.words("It replaces an earlier copy", EdgesOfHistoryTest::replaces);
        Check.words("restore: STATE if nothing was saved", EdgesOfHistoryTest::nothingSaved);
        Check.words("Restores what was saved, where nothing was there", EdgesOfHistoryTest::restoresNothing);
        Check.words("Restores what was saved, where all is full", EdgesOfHistoryTest::restoresAll);
        Check.words("with its curve", EdgesOfHistoryTest::restoresTheCurve);
        Check.words("The copy remains available", EdgesOfHistoryTest::remains);
        Check.words("No change can be undone afterwards", EdgesOfHistoryTest::noChangeAfterwards);
        Check.words("changes after restoring can be undone", EdgesOfHistoryTest::changesAfterwards);
        Check.words("restoring leaves the text", EdgesOfHistoryTest::restoreAndText);
        Check.end();
    }

    private static DungeonBuilder withoutHistory() {
        DungeonBuilder d = Makers.rich();
        d.save();
        d.restore();
        return d;
    }

    private static void nothingToUndo() {
        Twins.unchanged("undo() of nothing", Makers::emptyWithText, DungeonBuilder::undo, NONE);
        Twins.unchanged("undo() after restoring", EdgesOfHistoryTest::withoutHistory, DungeonBuilder::undo, NONE);
        Twins.unchanged("undo() after all were undone", Makers.then(Makers::rich, d -> {
            for (int i = 0; i < 6; i++) {
                d.undo();
            }
        }), DungeonBuilder::undo, NONE);
        Check.due("undo() of a new object", new DungeonBuilder().undo(), NONE);
    }

    /** Changes the key in room 0 so often, from 0 up to 5 and again from 0. */
    private static DungeonBuilder changed(int changes) {
        DungeonBuilder d = new DungeonBuilder();
        d.addRoom(0, 0, 2, 2);
        d.save();
        d.restore();
        for (int i = 0; i < changes; i++) {
            d.setKey(0, i % 6);
        }
        return d;
    }

    private static int keyAfter(int changes) {
        return changes == 0 ? NONE : (changes - 1) % 6;
    }

    private static void latestSix() {
        for (int changes = 0; changes <= 30; changes++) {
            DungeonBuilder d = changed(changes);
            int undone = Math.min(changes, 6);
            for (int i = 1; i <= undone; i++) {
                Check.due("undo() " + i + " of " + changes, d.undo(), undone - i);
                Check.due("the key", d.room(0, 4), keyAfter(changes - i));
            }
            Check.due("undo() of no more", d.undo(), NONE);
            Check.due("the key", d.room(0, 4), keyAfter(changes - undone));
        }
    }

    private static void stillToUndo() {
        DungeonBuilder d = changed(1);
        Check.due("undo() of one", d.undo(), 0);
        Check.due("undo() of six", changed(6).undo(), 5);
        Check.due("undo() of seven", changed(7).undo(), 5);
        Check.due("undo() of seven times seven", changed(49).undo(), 5);
    }

    private static void notUndone() {
        DungeonBuilder d = changed(3);
        Check.due("undo()", d.undo(), 2);
        Check.due("the key", d.room(0, 4), 1);
        d.setKey(0, 5);
        Check.due("undo() of the new one", d.undo(), 2);
        Check.due("the key", d.room(0, 4), 1);
        Check.due("undo() of the one before", d.undo(), 1);
        Check.due("the key", d.room(0, 4), 0);
        Check.due("undo() of the first", d.undo(), 0);
        Check.due("the key", d.room(0, 4), NONE);
    }

    private static void olderChanges() {
        DungeonBuilder d = changed(7);
        for (int i = 5; i >= 0; i--) {
            Check.due("undo()", d.undo(), i);
        }
        Check.due("the key of the first change", d.room(0, 4), 0);
        Check.due("undo() of the first change", d.undo(), NONE);
        Check.due("the key of the first change", d.room(0, 4), 0);
    }

    /** After so many changes and so many undone ones, new ones are made; all of them and the rest can be undone. */
    private static void afterOthers() {
        for (int changes = 6; changes <= 9; changes++) {
            for (int undone = 0; undone <= 6; undone++) {
                for (int more = 0; more <= 7; more++) {
                    DungeonBuilder d = changed(changes);
                    for (int i = 0; i < undone; i++) {
                        d.undo();
                    }
                    for (int i = 0; i < more; i++) {
                        d.setEntrance(0);
                    }
                    int left = Math.min(6, 6 - undone + more);
                    for (int i = left - 1; i >= 0; i--) {
                        Check.due("undo() after " + changes + ", " + undone + " and " + more, d.undo(), i);
                    }
                    Check.due("undo() of older changes", d.undo(), NONE);
                    int oldest = changes - undone - Math.max(0, left - more);
                    Check.due("the key", d.room(0, 4), keyAfter(oldest));
                }
            }
        }
    }

    /** The change can be undone, as one; all is then as before it. */
    private static void isChange(String name, Supplier<DungeonBuilder> made, Consumer<DungeonBuilder> change) {
        String before = Check.picture(made.get());
        DungeonBuilder changed = made.get();
        change.accept(changed);
        Check.holds(name + " has changed something", !before.equals(Check.picture(changed)));
        DungeonBuilder undone = made.get();
        change.accept(undone);
        Check.due("undo() of " + name, undone.undo(), 5);
        Check.holds(name + " is undone", before.equals(Check.picture(undone)));
        Check.due("undo() of what was before " + name, undone.undo(), 4);
    }

    private static void everyChange() {
        Supplier<DungeonBuilder> made = Makers::rich;
        isChange("addRoom", made, d -> d.addRoom(22, 14, 2, 2));
        isChange("addCorridor", made, d -> d.addCorridor(0, 4));
        isChange("setLock", made, d -> d.setLock(1, 3));
        isChange("setLock to none", made, d -> d.setLock(1, -1));
        isChange("setLock from none", made, d -> d.setLock(0, 3));
        isChange("setKey", made, d -> d.setKey(1, 3));
        isChange("setKey to none", made, d -> d.setKey(1, -1));
        isChange("setKey from none", made, d -> d.setKey(0, 3));
        isChange("setEntrance", made, d -> d.setEntrance(4));
        isChange("removeRoom of the first", made, d -> d.removeRoom(0));
        isChange("removeRoom of the entrance", made, d -> d.removeRoom(1));
        isChange("removeRoom of the last", made, d -> d.removeRoom(4));
        isChange("removeCorridor of the first", made, d -> d.removeCorridor(0));
        isChange("removeCorridor of the last", made, d -> d.removeCorridor(3));
        isChange("build", made, d -> d.build(1, 5));
        isChange("addLoop", made, DungeonBuilder::addLoop);
        isChange("placeLock", made, DungeonBuilder::placeLock);
        isChange("setCurve", made, d -> d.setCurve(2));
    }

    /** Reading also empties the text, which stays empty. */
    private static void readIsChange() {
        DungeonBuilder d = Makers.rich();
        Check.due("read() of k0,1;e2", d.read(), 2);
        Check.due("the entrance that the text sets", d.entrance(), 2);
        Check.due("the key that it sets", d.room(0, 4), 1);
        Check.due("undo() of read", d.undo(), 5);
        Check.due("the entrance before", d.entrance(), 1);
        Check.due("the key before", d.room(0, 4), NONE);
        Check.due("the text is not back", d.count(9), 0);
        Check.due("undo() of what was before it", d.undo(), 4);
    }

    private static void changesWhereAllIsFull() {
        Supplier<DungeonBuilder> made = Makers.then(Makers::full, d -> {
            for (int i = 0; i < 7; i++) {
                d.setLock(10 + i, 1);
            }
        });
        isChange("setLock", made, d -> d.setLock(19, 3));
        isChange("setKey", made, d -> d.setKey(11, 3));
        isChange("setEntrance", made, d -> d.setEntrance(11));
        isChange("removeRoom of the first", made, d -> d.removeRoom(0));
        isChange("removeRoom of the last", made, d -> d.removeRoom(11));
        isChange("removeCorridor of the first", made, d -> d.removeCorridor(0));
        isChange("removeCorridor of the last", made, d -> d.removeCorridor(19));
        isChange("build", made, d -> d.build(1, 5));
        isChange("setCurve", made, d -> d.setCurve(0));
    }

    private static void nothingChanges() {
        List<Consumer<DungeonBuilder>> changes = new ArrayList<>();
        changes.add(d -> d.setLock(0, 3));
        changes.add(d -> d.setLock(1, -1));
        changes.add(d -> d.setKey(0, 4));
        changes.add(d -> d.setKey(1, -1));
        changes.add(d -> d.setEntrance(0));
        changes.add(d -> d.setCurve(0));
        changes.add(d -> {
            Check.write(d, "e0");
            d.read();
        });
        for (int i = 0; i < changes.size(); i++) {
            DungeonBuilder d = Makers.line(3);
            d.setLock(0, 3);
            d.setKey(0, 4);
            d.save();
            d.restore();
            String before = Check.picture(d);
            changes.get(i).accept(d);
            Check.holds("nothing changes by " + i, before.equals(Check.picture(d)));
            changes.get(i).accept(d);
            Check.due("undo() of the second time", d.undo(), 1);
            Check.due("undo() of the first time", d.undo(), 0);
            Check.due("undo()", d.undo(), NONE);
            Check.holds("nothing has changed by " + i, before.equals(Check.picture(d)));
        }
        DungeonBuilder built = new DungeonBuilder();
        built.build(1, 5);
        built.build(1, 5);
        Check.due("undo() of the same building", built.undo(), 1);
        Check.due("rooms", built.count(0), 12);
        Check.due("undo()", built.undo(), 0);
        Check.due("rooms", built.count(0), 0);
        DungeonBuilder empty = new DungeonBuilder();
        Check.due("setCurve(0) of nothing", empty.setCurve(0), 0);
        Check.due("undo()", empty.undo(), 0);
    }

    private static void noPreviousColor() {
        DungeonBuilder d = Makers.line(2);
        d.save();
        d.restore();
        Check.due("setLock(0, 2)", d.setLock(0, 2), NONE);
        Check.due("setKey(0, 2)", d.setKey(0, 2), NONE);
        Check.due("undo()", d.undo(), 1);
        Check.due("room(0, 4)", d.room(0, 4), NONE);
        Check.due("corridor(0, 2)", d.corridor(0, 2), 2);
        Check.due("undo()", d.undo(), 0);
        Check.due("corridor(0, 2)", d.corridor(0, 2), NONE);
    }

    /** Every call that can be a change, refused, with each error code that it has; none of them by the same reason. */
    private static void refuseAll(DungeonBuilder d) {
        d.addRoom(0, 0, 1, 2);
        d.addRoom(0, 0, 2, 2);
        d.addCorridor(0, 9);
        d.addCorridor(0, 0);
        d.addCorridor(0, 1);
        d.setLock(9, 1);
        d.setLock(0, 6);
        d.setKey(9, 1);
        d.setKey(0, 6);
        d.setEntrance(9);
        d.removeRoom(9);
        d.removeCorridor(9);
        d.build(1, 6);
        d.addLoop();
        d.placeLock();
        d.setCurve(3);
        d.append(1);
        Check.write(d, "e9");
        d.read();
        d.read();
    }

    private static void refusedCalls() {
        DungeonBuilder empty = new DungeonBuilder();
        empty.addRoom(23, 0, 2, 2);
        empty.addLoop();
        empty.placeLock();
        empty.read();
        empty.restore();
        empty.removeRoom(0);
        Check.due("undo() after refused calls on nothing", empty.undo(), NONE);
        DungeonBuilder d = Makers.complete(3);
        d.save();
        d.restore();
        refuseAll(d);
        Check.due("undo() after refused calls", d.undo(), NONE);
        d.setKey(0, 5);
        refuseAll(d);
        Check.due("undo() of the change before refused calls", d.undo(), 0);
        Check.due("room(0, 4)", d.room(0, 4), NONE);
        DungeonBuilder full = Makers.complete(7);
        full.addLoop();
        full.addCorridor(5, 6);
        Check.due("undo() after FULL", full.undo(), 5);
        Check.due("corridors", full.count(1), 19);
        DungeonBuilder rooms = Makers.grid(12);
        rooms.addRoom(22, 14, 2, 2);
        Check.due("undo() after FULL", rooms.undo(), 5);
        Check.due("rooms", rooms.count(0), 11);
        DungeonBuilder state = Makers.line(2);
        state.setKey(0, 0);
        state.placeLock();
        state.restore();
        Check.due("undo() after STATE", state.undo(), 3);
        Check.due("keys", state.count(3), 0);
    }

    private static void refusedCallsAmongSix() {
        for (int changes = 6; changes <= 14; changes++) {
            DungeonBuilder d = Makers.complete(3);
            for (int i = 0; i < changes; i++) {
                d.setKey(0, i % 6);
                refuseAll(d);
            }
            for (int i = 5; i >= 0; i--) {
                Check.due("undo()", d.undo(), i);
                Check.due("the key", d.room(0, 4), keyAfter(changes - 6 + i));
                refuseAll(d);
            }
            Check.due("undo()", d.undo(), NONE);
        }
    }

    private static void otherCalls() {
        DungeonBuilder d = changed(6);
        for (int i = 0; i < 8; i++) {
            d.append('x');
            d.save();
            Check.picture(d);
            d.steps(0, 0, 1, 1);
            d.visits();
            d.walkRoom(0, 0);
        }
        for (int i = 5; i >= 0; i--) {
            Check.due("undo()", d.undo(), i);
            d.append('x');
            d.save();
        }
        Check.due("undo()", d.undo(), NONE);
    }

    private static void textIsOneChange() {
        DungeonBuilder d = new DungeonBuilder();
        Check.write(d, "e0;".repeat(20).substring(0, 59));
        Check.due("refused without rooms", d.read(), STATE);
        Check.due("undo()", d.undo(), NONE);
        d.addRoom(0, 0, 2, 2);
        Check.write(d, "e0;".repeat(20).substring(0, 59));
        Check.due("twenty commands", d.read(), 20);
        Check.due("undo() of them all", d.undo(), 1);
        Check.due("undo() of the room", d.undo(), 0);
        Check.due("undo()", d.undo(), NONE);
    }

    private static void textStays() {
        DungeonBuilder d = new DungeonBuilder();
        Check.write(d, "r0,0,2,2");
        d.setCurve(1);
        Check.due("undo()", d.undo(), 0);
        Check.due("characters", d.count(9), 8);
        Check.due("undo()", d.undo(), NONE);
        Check.due("characters", d.count(9), 8);
        Check.due("read()", d.read(), 1);
        Check.due("characters", d.count(9), 0);
        Check.due("undo()", d.undo(), 0);
        Check.due("characters", d.count(9), 0);
        DungeonBuilder full = new DungeonBuilder();
        full.setCurve(1);
        Check.write(full, "e0;".repeat(20));
        full.undo();
        Check.due("sixty characters", full.count(9), 60);
    }

    private static void allCalls() {
        DungeonBuilder d = new DungeonBuilder();
        d.addRoom(0, 0, 2, 2);
        for (int i = 0; i < 500; i++) {
            int due = i == 0 ? NONE : (i - 1) % 6;
            Check.due("setKey", d.setKey(0, i % 6), due);
        }
        for (int i = 5; i >= 0; i--) {
            Check.due("undo()", d.undo(), i);
        }
        Check.due("undo()", d.undo(), NONE);
        Check.due("room(0, 4)", d.room(0, 4), 493 % 6);
        Check.due("count(3)", d.count(3), 1);
        Check.due("save()", d.save(), 1);
        Check.due("the 512th call", d.restore(), 1);
    }

    private static void saves() {
        for (int rooms = 0; rooms <= 12; rooms++) {
            DungeonBuilder d = Makers.grid(rooms);
            Check.due("save()", d.save(), rooms);
            Check.due("restore()", d.restore(), rooms);
            Check.due("count(0)", d.count(0), rooms);
        }
        Twins.unchanged("save() again", Makers.then(Makers::rich, DungeonBuilder::save), DungeonBuilder::save, 5);
        Twins.unchanged("save() again", Makers.then(Makers::full, DungeonBuilder::save), DungeonBuilder::save, 12);
    }

    private static void replaces() {
        DungeonBuilder d = Makers.full();
        d.save();
        d.build(1, 0);
        Check.due("save() of less", d.save(), 1);
        d.build(1, 5);
        Check.due("restore() of less", d.restore(), 1);
        Check.due("corridors", d.count(1), 0);
        d.build(1, 5);
        d.setKey(11, 3);
        Check.due("save() of more", d.save(), 12);
        d.build(1, 0);
        Check.due("restore() of more", d.restore(), 12);
        Check.due("room(11, 4)", d.room(11, 4), 3);
        DungeonBuilder none = new DungeonBuilder();
        none.addRoom(0, 0, 2, 2);
        none.save();
        none.removeRoom(0);
        Check.due("save() of nothing", none.save(), 0);
        none.addRoom(0, 0, 2, 2);
        Check.due("restore() of nothing", none.restore(), 0);
        Check.due("rooms", none.count(0), 0);
    }

    private static void nothingSaved() {
        Twins.unchanged("restore() of nothing", Makers::emptyWithText, DungeonBuilder::restore, STATE);
        Twins.unchanged("restore() of nothing", () -> Makers.line(6), DungeonBuilder::restore, STATE);
        Twins.unchanged("restore() of nothing", Makers::bareFull, DungeonBuilder::restore, STATE);
        DungeonBuilder d = Makers.line(2);
        Check.due("restore()", d.restore(), STATE);
        d.save();
        Check.due("restore()", d.restore(), 2);
    }

    private static void restoresNothing() {
        DungeonBuilder d = new DungeonBuilder();
        Check.due("save()", d.save(), 0);
        Check.write(d, "r0,0,2,2;r4,0,2,2;c0,1;e1;l0,1;k0,1");
        d.read();
        Check.due("restore()", d.restore(), 0);
        Check.due("entrance()", d.entrance(), NONE);
        for (int what = 0; what <= 9; what++) {
            Check.due("count(" + what + ")", d.count(what), 0);
        }
        d.addRoom(0, 0, 2, 2);
        Check.due("entrance(), at first room 0", d.entrance(), 0);
        Check.due("room(0, 4)", d.room(0, 4), NONE);
    }

    private static void restoresAll() {
        String saved = Check.picture(Makers.full());
        DungeonBuilder d = Makers.full();
        d.save();
        for (int room = 0; room < 12; room++) {
            d.removeRoom(0);
        }
        Check.due("restore()", d.restore(), 12);
        Check.holds("all is as it was saved", saved.equals(Check.picture(d)));
    }

    private static void restoresTheCurve() {
        for (int curve = 0; curve <= 2; curve++) {
            DungeonBuilder d = Makers.line(2);
            d.setCurve(curve);
            d.save();
            d.setCurve(2 - curve);
            d.setCurve((curve + 1) % 3);
            d.restore();
            Check.due("difficulty(1)", d.difficulty(1), new int[] {10, 2, 91}[curve]);
            Check.due("the curve", d.setCurve(0), curve);
        }
    }

    private static void remains() {
        DungeonBuilder d = Makers.line(4);
        d.setKey(3, 2);
        d.save();
        String saved = Check.picture(d);
        for (int i = 0; i < 3; i++) {
            d.build(i, 5);
            Check.due("restore()", d.restore(), 4);
            Check.holds("all is as it was saved", saved.equals(Check.picture(d)));
            d.removeRoom(0);
            d.undo();
            d.setKey(3, 1);
            d.undo();
            d.setKey(3, 1);
            Check.due("restore()", d.restore(), 4);
            Check.holds("all is as it was saved", saved.equals(Check.picture(d)));
        }
    }

    private static void noChangeAfterwards() {
        for (int changes = 0; changes <= 8; changes++) {
            DungeonBuilder d = changed(changes);
            d.save();
            Check.due("undo() after saving", d.undo(), changes == 0 ? NONE : Math.min(changes, 6) - 1);
            d.setKey(0, 5);
            Check.due("restore()", d.restore(), 1);
            Check.due("undo()", d.undo(), NONE);
            Check.due("the key", d.room(0, 4), keyAfter(changes));
            Check.due("restore() again", d.restore(), 1);
            Check.due("undo()", d.undo(), NONE);
        }
    }

    private static void changesAfterwards() {
        for (int changes = 0; changes <= 8; changes++) {
            DungeonBuilder d = changed(10);
            d.save();
            d.restore();
            for (int i = 0; i < changes; i++) {
                d.setEntrance(0);
            }
            for (int i = Math.min(changes, 6) - 1; i >= 0; i--) {
                Check.due("undo()", d.undo(), i);
            }
            Check.due("undo()", d.undo(), NONE);
            Check.due("the key", d.room(0, 4), 3);
        }
    }

    private static void restoreAndText() {
        DungeonBuilder d = Makers.rich();
        Check.due("restore()", d.restore(), 5);
        Check.due("characters", d.count(9), 7);
        Check.due("faultPosition()", d.faultPosition(), 3);
        Check.due("read() of k0,1;e2", d.read(), 2);
        Check.due("undo()", d.undo(), 0);
    }
}
