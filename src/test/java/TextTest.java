/** Promises 13 to 15: texts. */
public final class TextTest {
    private static final int BAD_VALUE = -102;
    private static final int FULL = -103;
    private static final int NONE = -104;
    private static final int STATE = -105;

    private static final String SIXTY = "e0;e0;e0;e0;e0;e0;e0;e0;e0;e0;e0;e0;e0;e0;e0;e0;e0;e0;e0;e0;";

    public static void main(String[] args) {
        promise13Append();
        promise13WrongCharacters();
        promise13FullTexts();
        promise14Read();
        promise14Refused();
        promise14TheLongestText();
        promise15Faults();
        promise15Refusals();
        promise15Latest();
        Check.end();
    }

    private static void promise13Append() {
        DungeonBuilder d = new DungeonBuilder();
        Check.due("append(\"r0,0\")", d.append('r' << 24 | '0' << 16 | ',' << 8 | '0'), 4);
        Check.due("append(\"\\0,\\02\")", d.append(',' << 16 | '2'), 6);
        Check.due("append(0)", d.append(0), 6);
        Check.due("append(\",\\0\\0\\0\")", d.append(',' << 24), 7);
        Check.due("append(\"\\0\\05\\0\")", d.append('5' << 8), 8);
        Check.due("count(9)", d.count(9), 8);
        Check.due("read(): the characters are in their order", d.read(), 1);
        Check.due("room(0, 2)", d.room(0, 2), 2);
        Check.due("room(0, 3)", d.room(0, 3), 5);
        Check.due("count(9)", d.count(9), 0);
        Check.due("append(\"!~!~\")", d.append('!' << 24 | '~' << 16 | '!' << 8 | '~'), 4);
    }

    private static void promise13WrongCharacters() {
        DungeonBuilder d = new DungeonBuilder();
        d.append('e');
        for (int bad : new int[] {1, 10, 32, 127, 128, 200, 255}) {
            for (int shift = 0; shift < 32; shift += 8) {
                Check.due("append(" + bad + " << " + shift + ")", d.append(bad << shift), BAD_VALUE);
            }
            Check.due("append(\"00\" and " + bad + ")", d.append('0' << 24 | '0' << 8 | bad), BAD_VALUE);
        }
        Check.due("append(-1)", d.append(-1), BAD_VALUE);
        Check.due("count(9)", d.count(9), 1);
    }

    private static void promise13FullTexts() {
        DungeonBuilder d = new DungeonBuilder();
        Check.due("58 characters", Check.write(d, SIXTY.substring(0, 58)), 58);
        Check.due("three more", d.append('0' << 24 | ';' << 16 | 'e'), FULL);
        Check.due("four more, one of them wrong", d.append('0' << 24 | ';' << 16 | 'e' << 8 | 32), BAD_VALUE);
        Check.due("none of them is in the text", d.count(9), 58);
        Check.due("two more", d.append('0' << 24 | ';'), 60);
        Check.due("one more", d.append('e'), FULL);
        Check.due("a wrong one more", d.append(127), BAD_VALUE);
        Check.due("none more", d.append(0), 60);
        Check.due("count(9)", d.count(9), 60);
        d.read();
        Check.due("after reading there is room", d.append('e'), 1);
    }

    private static void promise14Read() {
        DungeonBuilder d = new DungeonBuilder();
        Check.write(d, "r0,0,2,2;r08,00,03,04;r16,0,2,2;c1,0;c01,2");
        Check.due("rooms and corridors", d.read(), 5);
        Check.due("count(0)", d.count(0), 3);
        Check.due("room(1, 0)", d.room(1, 0), 8);
        Check.due("room(1, 2)", d.room(1, 2), 3);
        Check.due("room(1, 3)", d.room(1, 3), 4);
        Check.due("between(0, 1)", d.between(0, 1), 0);
        Check.due("between(1, 2)", d.between(1, 2), 1);
        Check.write(d, "l0,5;k2,4;e1;l1,0;k2,03");
        Check.due("locks, keys and the entrance", d.read(), 5);
        Check.due("corridor(0, 2)", d.corridor(0, 2), 5);
        Check.due("corridor(1, 2)", d.corridor(1, 2), 0);
        Check.due("room(2, 4)", d.room(2, 4), 3);
        Check.due("entrance()", d.entrance(), 1);
        Check.due("the text is empty", d.count(9), 0);
        Check.due("read() of no text", d.read(), BAD_VALUE);
        Check.due("one text is one change", d.undo(), 1);
        Check.due("the entrance before", d.entrance(), 0);
        Check.due("no lock before", d.count(2), 0);
    }

    private static void promise14Refused() {
        String made = "r0,0,2,2;r4,0,2,2;c0,1;k0,1";
        String before = Check.picture(Check.made(made));
        String[] refused = {"r8,0,2,2;e2;k2,5;l0,3;c0,2;r0,0,2,2", "e1;r0,0,2,13", "e1;c0,1", "e1;c1,1", "e1;c1,2",
            "e1;l1,1", "e1;l0,6", "e1;k2,0", "e1;k0,6", "e1;e2", "e1;e99"};
        for (String text : refused) {
            DungeonBuilder d = Check.made(made);
            Check.write(d, text);
            Check.due("read() of " + text, d.read(), STATE);
            Check.due("the text is empty", d.count(9), 0);
            Check.holds("nothing has changed by " + text, before.equals(Check.picture(d)));
            Check.due("no change came of it", d.undo(), 0);
        }
        DungeonBuilder d = Check.made(made);
        Check.write(d, "e1;r8,0,2,2;");
        Check.due("read() with a fault after good commands", d.read(), BAD_VALUE);
        Check.due("the text is empty", d.count(9), 0);
        Check.holds("nothing has changed", before.equals(Check.picture(d)));
        Check.write(d, "e9;x");
        Check.due("a fault is told before a refusal", d.read(), BAD_VALUE);
        Check.due("no change came of all this", d.undo(), 0);
    }

    private static void promise14TheLongestText() {
        DungeonBuilder d = Check.made("r0,0,2,2");
        Check.write(d, SIXTY.substring(0, 59));
        Check.due("twenty commands", d.read(), 20);
        Check.due("faultPosition()", d.faultPosition(), NONE);
        Check.write(d, SIXTY);
        Check.due("a \";\" behind twenty commands", d.read(), BAD_VALUE);
        Check.due("faultPosition()", d.faultPosition(), 60);
        Check.write(d, SIXTY.substring(0, 57) + "e00");
        Check.due("twenty commands of sixty characters", d.read(), 20);
    }

    private static void promise15Faults() {
        Object[] faults = {"", 0, "x", 0, ";", 0, "0", 0, ",", 0, "R0,0,2,2", 0, "E0", 0, "r", 1, "rr", 1, "r,", 1,
            "r0", 2, "r00", 3, "r000", 3, "r0;", 2, "r0,", 3, "r0,;", 3, "r0,0,2", 6, "r0,0,2;", 6, "r0,0,2,", 7,
            "r0,0,2,2,", 8, "r0,0,2,22,", 9, "r0,0,2,2;", 9, "r0,0,2,2;;", 9, "r0,0,2,2;x", 9, "r0,0,2,2c", 8,
            "r10,10,10,100", 12, "c", 1, "c0", 2, "c0;", 2, "c0,", 3, "c0,1,", 4, "c0,1;c", 6, "c-1", 1, "l", 1,
            "l0", 2, "l0,-1", 3, "l0,1,1", 4, "k0,", 3, "k0,000", 5, "e", 1, "e;", 1, "e0,", 2, "e0;", 3, "e000", 3,
            "e0e0", 2, "e0;e", 4, "e/", 1, "e:", 1, "e0:", 2, "c0.1", 2, "e0~", 2};
        DungeonBuilder d = Check.made("r8,8,2,2");
        for (int i = 0; i < faults.length; i += 2) {
            Check.write(d, (String) faults[i]);
            Check.due("read() of " + faults[i], d.read(), BAD_VALUE);
            Check.due("faultPosition() of " + faults[i], d.faultPosition(), (int) faults[i + 1]);
        }
    }

    private static void promise15Refusals() {
        Object[] refused = {"e1", 0, "e0;e1", 3, "e0;e1;e2", 3, "k0,1;k0,6", 5, "k00,01;k0,06;e9", 7, "l0,0", 0,
            "e0;r0,0,2,2;r1,1,2,2", 12, "r0,0,1,2;e0", 0, "e0;c0,0", 3};
        DungeonBuilder d = Check.made("r8,8,2,2");
        for (int i = 0; i < refused.length; i += 2) {
            Check.write(d, (String) refused[i]);
            Check.due("read() of " + refused[i], d.read(), STATE);
            Check.due("faultPosition() of " + refused[i], d.faultPosition(), (int) refused[i + 1]);
        }
    }

    private static void promise15Latest() {
        DungeonBuilder d = new DungeonBuilder();
        Check.due("none was read", d.faultPosition(), NONE);
        Check.write(d, "r0,0,2,2");
        Check.due("none was read yet", d.faultPosition(), NONE);
        d.read();
        Check.due("no fault", d.faultPosition(), NONE);
        d.save();
        Check.write(d, "e0;e5");
        d.read();
        Check.due("a refusal", d.faultPosition(), 3);
        d.undo();
        Check.due("also after undoing", d.faultPosition(), 3);
        d.restore();
        Check.due("also after restoring", d.faultPosition(), 3);
        Check.write(d, "e0");
        d.append(1);
        d.build(1, 1);
        Check.due("also after other calls", d.faultPosition(), 3);
        d.read();
        Check.due("a later text without a fault", d.faultPosition(), NONE);
    }
}
