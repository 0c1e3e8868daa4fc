import java.util.regex.Matcher;
import java.util.regex.Pattern;

/** The edges of what the document says of texts: promises 13 to 15. */
public final class EdgesOfTextsTest {
    private static final int BAD_VALUE = -102;
    private static final int FULL = -103;
    private static final int NONE = -104;
    private static final int STATE = -105;

    private static final String NUMBER = "[0-9]{1,2}";
    private static final String PAIR = NUMBER + "," + NUMBER;
    private static final String COMMAND = "(r" + PAIR + "," + PAIR + "|[clk]" + PAIR + "|e" + NUMBER + ")";
    private static final Pattern TEXT = Pattern.compile(COMMAND + "(;" + COMMAND + ")*");

    public static void main(String[] args) {
        Check.words("from the most significant one to the least significant one", EdgesOfTextsTest::orderOfBytes);
        Check.words("where bytes that are 0 are skipped", EdgesOfTextsTest::bytesThatAreZero);
        Check.words("BAD_VALUE if a byte that is not 0 is not from 33 to 126", EdgesOfTextsTest::anyByte);
        Check.words("append: BAD_VALUE leaves everything unchanged", EdgesOfTextsTest::badBytes);
        Check.words("FULL if it would have more than 60 characters", EdgesOfTextsTest::moreThanSixty);
        Check.words("append: FULL leaves everything unchanged", EdgesOfTextsTest::fullText);
        Check.words("append: BAD_VALUE (checked first); FULL", EdgesOfTextsTest::badBytesInAFullText);
        Check.words("one or more commands: none", EdgesOfTextsTest::noCommand);
        Check.words("one or more commands: one", EdgesOfTextsTest::oneCommand);
        Check.words("one or more commands: as many as a text can have", EdgesOfTextsTest::twentyCommands);
        Check.words("one or more commands: the longest ones", EdgesOfTextsTest::longestCommands);
        Check.words("numbers of one or two digits", EdgesOfTextsTest::digits);
        Check.words("Numbers in texts can have zeros at the front", EdgesOfTextsTest::zerosAtTheFront);
        Check.words("numbers up to 99", EdgesOfTextsTest::greatestNumbers);
        Check.words("with a ; between two of them", EdgesOfTextsTest::between);
        Check.words("each written without blanks", EdgesOfTextsTest::withoutBlanks);
        Check.words("The text is empty afterwards in any case", EdgesOfTextsTest::emptyAfterwards);
        Check.words("Reads the text as commands and executes them in their order", EdgesOfTextsTest::inTheirOrder);
        Check.words("If a command is refused, none of them has an effect", EdgesOfTextsTest::noneHasAnEffect);
        Check.words("r: refused if addRoom would return an error code", EdgesOfTextsTest::refusedRooms);
        Check.words("c: refused if addCorridor would return an error code", EdgesOfTextsTest::refusedCorridors);
        Check.words("l: refused if setLock would return an error code", EdgesOfTextsTest::refusedLocks);
        Check.words("k: refused if setKey would return an error code", EdgesOfTextsTest::refusedKeys);
        Check.words("e: refused if setEntrance would return an error code", EdgesOfTextsTest::refusedEntrances);
        Check.words("NONE as the previous color is no error code", EdgesOfTextsTest::noPreviousColor);
        Check.words("BAD_VALUE if the text has a fault (checked first); STATE", EdgesOfTextsTest::faultBeforeRefusal);
        Check.words("read: BAD_VALUE leaves the dungeon as it was", EdgesOfTextsTest::faultsHaveNoEffect);
        Check.words("the index of the first character that cannot continue a text", EdgesOfTextsTest::anyCharacter);
        Check.words("or the length of the text if it ends too early", EdgesOfTextsTest::endsTooEarly);
        Check.words("the fault position at the end of the longest text", EdgesOfTextsTest::faultsAtSixty);
        Check.words("the index of the first character of the first command that was refused",
                EdgesOfTextsTest::refusedAt);
        Check.words("NONE if that text had no fault and no command was refused, or none was read",
                EdgesOfTextsTest::noFault);
        Check.words("The fault position is that of the latest text", EdgesOfTextsTest::latestText);
        Check.end();
    }

    private static int packed(int... bytes) {
        return bytes[0] << 24 | bytes[1] << 16 | bytes[2] << 8 | bytes[3];
    }

    private static DungeonBuilder written(String text) {
        DungeonBuilder d = new DungeonBuilder();
        Check.due("characters of " + text, Check.write(d, text), text.length());
        return d;
    }

    /** A text of so many characters, which is sound if it ends at the end of a command. */
    private static String entrances(int length) {
        return "e0;".repeat(20).substring(0, length);
    }

    private static void orderOfBytes() {
        DungeonBuilder d = new DungeonBuilder();
        Check.due("append", d.append(packed('r', '1', ',', '2')), 4);
        Check.due("append", d.append(packed(',', '3', ',', '4')), 8);
        Check.due("read()", d.read(), 1);
        Check.row("room(0, what)", what -> d.room(0, what), 1, 2, 3, 4);
    }

    /** The text r0,0,2,2 in eight calls, with the characters at all places among zeros. */
    private static void bytesThatAreZero() {
        for (int zeros = 0; zeros < 16; zeros++) {
            DungeonBuilder d = new DungeonBuilder();
            String text = "r4,5,6,7";
            int written = 0;
            for (int call = 0; call < 40 && written < 8; call++) {
                int[] bytes = new int[4];
                for (int i = 0; i < 4; i++) {
                    boolean here = (zeros >> i & 1) == 0 && written < 8;
                    bytes[i] = here ? text.charAt(written) : 0;
                    written += here ? 1 : 0;
                }
                Check.due("append with zeros " + zeros, d.append(packed(bytes)), written);
            }
            Check.due("read()", d.read(), written == 0 ? BAD_VALUE : 1);
            Check.due("room(0, 3)", written == 0 ? 7 : d.room(0, 3), 7);
        }
        Check.due("append(0) of nothing", new DungeonBuilder().append(0), 0);
    }

    private static void anyByte() {
        for (int sign = 0; sign <= 255; sign++) {
            for (int place = 0; place < 4; place++) {
                int[] alone = new int[4];
                int[] among = {'e', '0', ';', 'e'};
                alone[place] = sign;
                among[place] = sign;
                boolean good = sign >= 33 && sign <= 126;
                int one = sign == 0 ? 0 : 1;
                Check.due("append(" + sign + ") at " + place, new DungeonBuilder().append(packed(alone)),
                        good || sign == 0 ? one : BAD_VALUE);
                Check.due("append(" + sign + ") among others at " + place, new DungeonBuilder().append(packed(among)),
                        good || sign == 0 ? 3 + one : BAD_VALUE);
            }
        }
    }

    private static void badBytes() {
        int[][] bad = {{32, 'e', 'e', 'e'}, {'e', 127, 'e', 'e'}, {'e', 'e', 1, 'e'}, {'e', 'e', 'e', 255}, {0, 0, 0, 32},
            {128, 0, 0, 0}, {255, 255, 255, 255}};
        for (int[] bytes : bad) {
            Twins.unchanged("append of none", Makers::emptyWithText, d -> d.append(packed(bytes)), BAD_VALUE);
            Twins.unchanged("append", Makers::rich, d -> d.append(packed(bytes)), BAD_VALUE);
        }
        Twins.unchanged("append(MIN)", Makers::rich, d -> d.append(Integer.MIN_VALUE), BAD_VALUE);
        Twins.unchanged("append(MAX)", Makers::rich, d -> d.append(Integer.MAX_VALUE), BAD_VALUE);
    }

    private static void moreThanSixty() {
        int[] more = {0, 'e', 'e' << 8 | '0', 'e' << 16 | '0' << 8 | ';', packed('e', '0', ';', 'e')};
        for (int length = 55; length <= 60; length++) {
            for (int signs = 0; signs <= 4; signs++) {
                DungeonBuilder d = written(entrances(length));
                boolean fits = length + signs <= 60;
                Check.due(signs + " more than " + length, d.append(more[signs]), fits ? length + signs : FULL);
                Check.due("characters", d.count(9), fits ? length + signs : length);
            }
        }
        DungeonBuilder d = written(entrances(60));
        d.read();
        Check.due("after reading", d.append('e'), 1);
    }

    private static void fullText() {
        Twins.unchanged("append to 60", () -> written(entrances(60)), d -> d.append('x'), FULL);
        Twins.unchanged("two to 59", () -> written(entrances(59)), d -> d.append('x' << 24 | 'y'), FULL);
        Twins.unchanged("four to 57", () -> written(entrances(57)), d -> d.append(packed('a', 'b', 'c', 'd')), FULL);
    }

    private static void badBytesInAFullText() {
        Twins.unchanged("a bad one to 60", () -> written(entrances(60)), d -> d.append(32), BAD_VALUE);
        Twins.unchanged("the last one bad to 60", () -> written(entrances(60)), d -> d.append(packed('e', 'e', 'e', 127)),
                BAD_VALUE);
        Twins.unchanged("the first one bad to 57", () -> written(entrances(57)), d -> d.append(packed(200, 'e', 'e',
                'e')),
                BAD_VALUE);
    }

    private static void noCommand() {
        DungeonBuilder d = new DungeonBuilder();
        Check.due("read() of no text", d.read(), BAD_VALUE);
        Check.due("faultPosition()", d.faultPosition(), 0);
        Check.due("read() of no text again", d.read(), BAD_VALUE);
        d.append(0);
        Check.due("read() of zeros", d.read(), BAD_VALUE);
        Check.due("faultPosition()", d.faultPosition(), 0);
        Twins.unread("", Makers::richWithoutText, BAD_VALUE, 0);
        Twins.unread("", Makers::fullWithoutText, BAD_VALUE, 0);
    }

    private static void oneCommand() {
        for (String text : new String[] {"r20,14,2,2", "c0,4", "l0,5", "k0,5", "e4"}) {
            DungeonBuilder d = Makers.richWithoutText();
            Check.write(d, text);
            Check.due("read() of " + text, d.read(), 1);
            Check.due("faultPosition()", d.faultPosition(), NONE);
        }
    }

    private static void twentyCommands() {
        for (int commands = 1; commands <= 20; commands++) {
            DungeonBuilder d = Makers.grid(1);
            Check.write(d, entrances(3 * commands - 1));
            Check.due("read()", d.read(), commands);
            Check.due("faultPosition()", d.faultPosition(), NONE);
        }
        DungeonBuilder d = Makers.grid(2);
        Check.write(d, entrances(57) + "e01");
        Check.due("read() of sixty characters", d.read(), 20);
        Check.due("the last command", d.entrance(), 1);
    }

    private static void longestCommands() {
        DungeonBuilder d = written("r10,10,10,06;r10,04,10,06;r00,04,10,06;r00,10,10,06;e03;e01");
        Check.due("read()", d.read(), 6);
        Check.due("count(0)", d.count(0), 4);
        Check.due("entrance()", d.entrance(), 1);
    }

    /** Every number of every command with no digit, one, two and three. */
    private static void digits() {
        Object[][] commands = {{"r", 4}, {"c", 2}, {"l", 2}, {"k", 2}, {"e", 1}};
        for (Object[] command : commands) {
            for (int place = 0; place < (int) command[1]; place++) {
                for (int digits = 0; digits <= 3; digits++) {
                    StringBuilder text = new StringBuilder((String) command[0]);
                    int fault = 0;
                    for (int i = 0; i < (int) command[1]; i++) {
                        text.append(i == 0 ? "" : ",").append(i == place ? "000".substring(0, digits) : "0");
                        fault = i == place ? text.length() - (digits == 3 ? 1 : 0) : fault;
                    }
                    DungeonBuilder d = written(text.toString());
                    boolean sound = digits == 1 || digits == 2;
                    Check.due("read() of " + text, d.read(), sound ? STATE : BAD_VALUE);
                    Check.due("faultPosition() of " + text, d.faultPosition(), sound ? 0 : fault);
                }
            }
        }
    }

    private static void zerosAtTheFront() {
        DungeonBuilder d = written("r00,01,02,03;r08,09,4,05;c00,01;l00,05;k01,04;e01");
        Check.due("read()", d.read(), 6);
        Check.row("room(0, what)", what -> d.room(0, what), 0, 1, 2, 3);
        Check.row("room(1, what)", what -> d.room(1, what), 8, 9, 4, 5, 4);
        Check.row("corridor(0, what)", what -> d.corridor(0, what), 0, 1, 5);
        Check.due("entrance()", d.entrance(), 1);
    }

    private static void greatestNumbers() {
        for (String text : new String[] {"r99,0,2,2", "r20,99,2,2", "r20,14,99,2", "r20,14,2,99", "r99,99,99,99",
                "c99,0", "c0,99",
            "c99,99", "l99,0", "l0,99", "k99,0", "k0,99", "e99"}) {
            Twins.unread(text, Makers::richWithoutText, STATE, 0);
        }
        DungeonBuilder d = written("r12,04,12,12");
        Check.due("read() of the greatest room", d.read(), 1);
        Check.row("room(0, what)", what -> d.room(0, what), 12, 4, 12, 12);
    }

    private static void between() {
        Object[][] texts = {{";e0", 0}, {"e0;", 3}, {"e0;;e0", 3}, {"e0e0", 2}, {"e0,e0", 2}, {"e0:e0", 2}, {";", 0},
            {"r0,0,2,2c0,1", 8}, {"r0,0,2,2,c0,1", 8}, {"c0,1r0,0,2,2", 4}, {"l0,1k0,1", 4}, {"k0,1l0,1", 4}};
        for (Object[] text : texts) {
            Twins.unread((String) text[0], Makers::richWithoutText, BAD_VALUE, (int) text[1]);
        }
    }

    private static void withoutBlanks() {
        DungeonBuilder d = written("e0;");
        Check.due("append of a blank", d.append(' '), BAD_VALUE);
        Check.due("append of a blank among others", d.append(packed(' ', 'e', '0', ';')), BAD_VALUE);
        Check.due("characters", d.count(9), 3);
        for (String text : new String[] {"e_0", "e-1", "e+1", "r0.0,2,2"}) {
            Twins.unread(text, Makers::richWithoutText, BAD_VALUE, text.charAt(0) == 'r' ? 2 : 1);
        }
    }

    private static void emptyAfterwards() {
        for (String text : new String[] {"e0", "e1", "x", "e0;", entrances(60), entrances(59), "e0;e1"}) {
            DungeonBuilder d = Makers.grid(1);
            Check.write(d, text);
            d.read();
            Check.due("characters after reading " + text, d.count(9), 0);
            Check.due("append to an empty text", d.append(packed('k', '0', ',', '3')), 4);
            Check.due("read() of what was appended alone", d.read(), 1);
            Check.due("room(0, 4)", d.room(0, 4), 3);
        }
    }

    private static void inTheirOrder() {
        DungeonBuilder d = written("r0,0,2,2;k0,1;k0,2;r4,0,2,2;c1,0;l0,3;l0,4;e1;e0");
        Check.due("read()", d.read(), 9);
        Check.due("the later key", d.room(0, 4), 2);
        Check.due("the later lock", d.corridor(0, 2), 4);
        Check.due("the later entrance", d.entrance(), 0);
        DungeonBuilder early = written("c0,1;r0,0,2,2;r4,0,2,2");
        Check.due("a corridor before its rooms", early.read(), STATE);
        Check.due("count(0)", early.count(0), 0);
    }

    private static void noneHasAnEffect() {
        Twins.unread("e9;r20,14,2,2;c0,4", Makers::richWithoutText, STATE, 0);
        Twins.unread("r20,14,2,2;e9;c0,4", Makers::richWithoutText, STATE, 11);
        Twins.unread("r20,14,2,2;c0,4;l0,5;k0,5;e5;e9", Makers::richWithoutText, STATE, 29);
        Twins.unread("r0,0,2,2;r0,0,2,2", Makers::empty, STATE, 9);
        Twins.unread("e5;k0,5;l0,0;e12", Makers::fullWithoutText, STATE, 13);
    }

    private static void refusedRooms() {
        for (String text : new String[] {"r20,14,1,2", "r20,14,2,1", "r0,4,13,2", "r20,3,2,13", "r23,14,2,2",
                "r22,15,2,2", "r0,0,2,2",
            "r0,0,0,0"}) {
            Twins.unread(text, Makers::richWithoutText, STATE, 0);
        }
        Twins.unread("r22,14,2,2", Makers::fullWithoutText, STATE, 0);
        Twins.unread("e0;r22,14,2,2", Makers::fullWithoutText, STATE, 3);
        DungeonBuilder d = Makers.grid(11);
        Check.write(d, "r22,14,2,2;r22,0,2,2");
        Check.due("the thirteenth room", d.read(), STATE);
        Check.due("faultPosition()", d.faultPosition(), 11);
        Check.due("count(0)", d.count(0), 11);
        Check.write(d, "r22,14,2,2");
        Check.due("the twelfth room", d.read(), 1);
    }

    private static void refusedCorridors() {
        for (String text : new String[] {"c5,0", "c0,5", "c5,5", "c0,0", "c4,4", "c0,1", "c1,0", "c4,3"}) {
            Twins.unread(text, Makers::richWithoutText, STATE, 0);
        }
        Twins.unread("c1,11", Makers::fullWithoutText, STATE, 0);
        DungeonBuilder d = Makers.bareFull();
        d.removeCorridor(19);
        Check.write(d, "c1,11;c1,10");
        Check.due("the 21st corridor", d.read(), STATE);
        Check.due("faultPosition()", d.faultPosition(), 6);
        Check.due("count(1)", d.count(1), 19);
        Check.write(d, "c1,11");
        Check.due("the 20th corridor", d.read(), 1);
    }

    private static void refusedLocks() {
        for (String text : new String[] {"l4,0", "l20,0", "l0,6", "l4,6"}) {
            Twins.unread(text, Makers::richWithoutText, STATE, 0);
        }
        Twins.unread("l0,0", Makers::empty, STATE, 0);
        Twins.unread("l20,0", Makers::fullWithoutText, STATE, 0);
        DungeonBuilder d = Makers.bareFull();
        Check.write(d, "l19,5;l0,0");
        Check.due("the last corridor and the last color", d.read(), 2);
        Check.due("corridor(19, 2)", d.corridor(19, 2), 5);
        Check.due("corridor(0, 2)", d.corridor(0, 2), 0);
    }

    private static void refusedKeys() {
        for (String text : new String[] {"k5,0", "k12,0", "k0,6", "k5,6"}) {
            Twins.unread(text, Makers::richWithoutText, STATE, 0);
        }
        Twins.unread("k0,0", Makers::empty, STATE, 0);
        Twins.unread("k12,0", Makers::fullWithoutText, STATE, 0);
        DungeonBuilder d = Makers.grid(12);
        Check.write(d, "k11,5;k0,0");
        Check.due("the last room and the last color", d.read(), 2);
        Check.due("room(11, 4)", d.room(11, 4), 5);
        Check.due("room(0, 4)", d.room(0, 4), 0);
    }

    private static void refusedEntrances() {
        Twins.unread("e5", Makers::richWithoutText, STATE, 0);
        Twins.unread("e0", Makers::empty, STATE, 0);
        Twins.unread("e12", Makers::fullWithoutText, STATE, 0);
        DungeonBuilder d = Makers.grid(12);
        Check.write(d, "e11");
        Check.due("the last room", d.read(), 1);
        Check.due("entrance()", d.entrance(), 11);
    }

    private static void noPreviousColor() {
        DungeonBuilder d = Makers.line(2);
        Check.write(d, "l0,0;l0,0;k0,0;k0,0;k1,5");
        Check.due("read()", d.read(), 5);
        Check.due("faultPosition()", d.faultPosition(), NONE);
        Check.due("undo()", d.undo(), 3);
        Check.due("locks", d.count(2), 0);
        Check.due("keys", d.count(3), 0);
    }

    private static void faultBeforeRefusal() {
        Twins.unread("e9;x", Makers::richWithoutText, BAD_VALUE, 3);
        Twins.unread("e9;", Makers::richWithoutText, BAD_VALUE, 3);
        Twins.unread("r0,0,2,2;e9;c0,", Makers::richWithoutText, BAD_VALUE, 15);
        Twins.unread("e100", Makers::richWithoutText, BAD_VALUE, 3);
    }

    private static void faultsHaveNoEffect() {
        Twins.unread("e0;r20,14,2,2;", Makers::richWithoutText, BAD_VALUE, 14);
        Twins.unread("k0,1;l0,1;c0,2;!", Makers::fullWithoutText, BAD_VALUE, 15);
        Twins.unread("r0,0,2,2;?", Makers::empty, BAD_VALUE, 9);
    }

    private static boolean canContinue(String start) {
        Matcher matcher = TEXT.matcher(start);
        return matcher.matches() || matcher.hitEnd();
    }

    private static int fault(String text) {
        for (int i = 0; i < text.length(); i++) {
            if (!canContinue(text.substring(0, i + 1))) {
                return i;
            }
        }
        return text.length();
    }

    /** All printable characters in the place of each one of a sound text, and behind it. */
    private static void anyCharacter() {
        String sound = "r1,22,3,99;c0,11;l1,2;k12,3;e4";
        for (int place = 0; place <= sound.length(); place++) {
            for (char sign = 33; sign <= 126; sign++) {
                String rest = place < sound.length() ? sound.substring(place + 1) : "";
                String text = sound.substring(0, place) + sign + rest;
                DungeonBuilder d = written(text);
                boolean good = TEXT.matcher(text).matches();
                Check.due("read() of " + text, d.read(), good ? STATE : BAD_VALUE);
                Check.due("faultPosition() of " + text, d.faultPosition(), good ? 0 : fault(text));
            }
        }
    }

    private static void endsTooEarly() {
        String sound = "r1,22,3,99;c0,11;l1,2;k12,3;e4";
        for (int length = 0; length < sound.length(); length++) {
            String text = sound.substring(0, length);
            if (!TEXT.matcher(text).matches()) {
                DungeonBuilder d = written(text);
                Check.due("read() of " + text, d.read(), BAD_VALUE);
                Check.due("faultPosition() of " + text, d.faultPosition(), length);
            }
        }
    }

    private static void faultsAtSixty() {
        Object[][] texts = {
            {entrances(60), 60},
            {entrances(58), 58},
            {entrances(57) + "e0,", 59},
            {entrances(57) + "e", 58},
            {entrances(57) + "r", 58},
            {entrances(57) + "r0,", 60},
            {entrances(57) + "c00", 60},
            {entrances(57) + "x", 57},
            {entrances(54) + "c0,1,", 58},
            {entrances(54) + "c0,1;e", 60},
            {entrances(54) + "l00,00", NONE},
        };
        for (Object[] text : texts) {
            DungeonBuilder d = Makers.grid(2, 0, 1);
            Check.write(d, (String) text[0]);
            boolean good = (int) text[1] == NONE;
            Check.due("read() of " + text[0], d.read(), good ? 19 : BAD_VALUE);
            Check.due("faultPosition() of " + text[0], d.faultPosition(), (int) text[1]);
        }
    }

    private static void refusedAt() {
        for (int command = 0; command < 20; command++) {
            DungeonBuilder d = Makers.grid(1);
            String after = command < 18 ? ";e2;e0" : command == 18 ? ";e2" : "";
            Check.write(d, entrances(3 * command) + "e1" + after);
            Check.due("read()", d.read(), STATE);
            Check.due("faultPosition()", d.faultPosition(), 3 * command);
        }
    }

    private static void noFault() {
        DungeonBuilder d = new DungeonBuilder();
        Check.due("none was read", d.faultPosition(), NONE);
        Check.write(d, "x");
        Check.due("none was read yet", d.faultPosition(), NONE);
        d.read();
        Check.due("a fault", d.faultPosition(), 0);
        Check.write(d, "r0,0,2,2");
        d.read();
        Check.due("no fault", d.faultPosition(), NONE);
        Check.write(d, "e1");
        d.read();
        Check.due("a refusal", d.faultPosition(), 0);
        Check.write(d, "e0");
        d.read();
        Check.due("no refusal", d.faultPosition(), NONE);
    }

    private static void latestText() {
        DungeonBuilder d = Makers.rich();
        Check.due("the fault", d.faultPosition(), 3);
        d.undo();
        Check.due("after undoing", d.faultPosition(), 3);
        d.restore();
        Check.due("after restoring", d.faultPosition(), 3);
        d.build(1, 5);
        Check.due("after building", d.faultPosition(), 3);
        d.append('x');
        Check.due("with a text that is not read", d.faultPosition(), 3);
        d.read();
        Check.due("the text k0,1;e2x", d.faultPosition(), 7);
        d.undo();
        Check.due("after undoing", d.faultPosition(), 7);
    }
}
