/** Counts and prints the answers that are not as due. */
final class Check {
    private static int asked = 0;
    private static int wrong = 0;

    private Check() {
    }

    static void due(String call, long got, long want) {
        asked++;
        if (got != want) {
            wrong++;
            System.out.println(call + " answered " + got + ", due is " + want);
        }
    }

    static void holds(String what, boolean holds) {
        asked++;
        if (!holds) {
            wrong++;
            System.out.println("does not hold: " + what);
        }
    }

    static boolean clean() {
        return wrong == 0;
    }

    /** A test of its own for some words of the document; it fails if an answer is wrong, and if it asks nothing. */
    static void words(String words, Runnable test) {
        int askedBefore = asked;
        int wrongBefore = wrong;
        try {
            test.run();
        } catch (RuntimeException e) {
            wrong++;
            System.out.println("thrown: " + e);
        }
        if (asked == askedBefore) {
            wrong++;
            System.out.println("nothing was asked");
        }
        if (wrong != wrongBefore) {
            System.out.println("BROKEN: " + words);
        }
    }

    /** A test that asked nothing has tested nothing, so it fails too. */
    static void end() {
        System.out.println(asked + " checks, " + wrong + " wrong");
        if (wrong != 0 || asked == 0) {
            System.exit(1);
        }
    }

    /** The answers of a question that is asked once for each of the numbers from 0. */
    static void row(String question, java.util.function.IntUnaryOperator asked, int... due) {
        for (int i = 0; i < due.length; i++) {
            due(question + " for " + i, asked.applyAsInt(i), due[i]);
        }
    }

    /** Appends a text of any length in fours; answers what the last append answered. */
    static int write(DungeonBuilder d, String text) {
        int answer = d.count(9);
        for (int i = 0; i < text.length(); i += 4) {
            int packed = 0;
            for (int j = i; j < i + 4; j++) {
                packed = packed << 8 | (j < text.length() ? text.charAt(j) : 0);
            }
            answer = d.append(packed);
        }
        return answer;
    }

    /** Reads a text that is expected to be executed. */
    static DungeonBuilder made(String... texts) {
        DungeonBuilder d = new DungeonBuilder();
        for (String text : texts) {
            write(d, text);
            int commands = d.read();
            holds("the text " + text + " is executed", commands == text.split(";").length);
        }
        return d;
    }

    /** All that can be asked of the dungeon, so that two states can be compared. */
    static String picture(DungeonBuilder d) {
        StringBuilder all = new StringBuilder();
        for (int what = 0; what <= 9; what++) {
            all.append(d.count(what)).append(' ');
        }
        for (int room = 0; room < d.count(0); room++) {
            for (int what = 0; what <= 7; what++) {
                all.append(d.room(room, what)).append(',');
            }
            all.append(d.difficulty(room)).append(' ');
        }
        for (int c = 0; c < d.count(1); c++) {
            for (int what = 0; what <= 3; what++) {
                all.append(d.corridor(c, what)).append(',');
            }
        }
        return all.append(' ').append(d.entrance()).toString();
    }
}
