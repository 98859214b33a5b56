import java.util.LinkedHashMap;
import java.util.Map;

/**
 * Calls that are refused: in which of some states each of them throws which exception, and that it
 * changes nothing then, also nothing that only undo and restore can tell.
 */
public final class RefusedTest {
    private static final String NOTHING = "nothing";
    private static final String ARGUMENT = "java.lang.IllegalArgumentException";
    private static final String STATE = "java.lang.IllegalStateException";
    private static final String INDEX = "java.lang.IndexOutOfBoundsException";
    private static final int LEAST = Integer.MIN_VALUE;
    private static final int GREATEST = Integer.MAX_VALUE;

    private static int checks = 0;
    private static int wrong = 0;

    /** Some calls of an object. */
    private interface Story {
        void tell(MakerLines x);
    }

    private interface Call {
        double answer(MakerLines x);
    }

    public static void main(String[] args) {
        for (Map.Entry<String, Story> story : stories().entrySet()) {
            argumentsOfBoards(story.getKey(), story.getValue());
            argumentsOfGames(story.getKey(), story.getValue());
            argumentsOfLooks(story.getKey(), story.getValue());
        }
        states();
        whatComesFirst();
        System.out.println(checks + " checks, " + wrong + " wrong");
        if (wrong != 0) {
            System.exit(1);
        }
    }

    // ---- the states

    private static Map<String, Story> stories() {
        Map<String, Story> stories = new LinkedHashMap<>();
        stories.put("new", x -> { });
        stories.put("open", RefusedTest::open);
        stories.put("the breaker's turn", RefusedTest::breakersTurn);
        stories.put("won by the maker", RefusedTest::wonByMaker);
        stories.put("won by the breaker", RefusedTest::wonByBreaker);
        stories.put("full", RefusedTest::full);
        return stories;
    }

    /** Open, the maker is the mover; snapshot 1 and 6 saved states, and a text that is wrong. */
    private static void open(MakerLines x) {
        x.begin(6);
        x.addLine(3);
        x.take(1);
        x.addLine(12);
        x.addLine(48);
        x.addLine(21);
        x.move(0);
        x.move(5);
        type(x, "01;x");
    }

    private static void breakersTurn(MakerLines x) {
        open(x);
        x.clearBuffer();
        x.move(2);
        x.take(0);
        type(x, "01;");
    }

    private static void wonByMaker(MakerLines x) {
        breakersTurn(x);
        x.skip();
        x.move(1);
        x.clearBuffer();
    }

    private static void wonByBreaker(MakerLines x) {
        x.begin(3);
        x.addLine(6);
        x.move(0);
        x.move(2);
        type(x, "21");
    }

    /** Twelve lines, ten cells, sixty characters that are a row of lines, both snapshots, open. */
    private static void full(MakerLines x) {
        x.begin(10);
        for (int line = 0; line < 12; line++) {
            x.addLine(line % 2 == 0 ? 1023 : 992);
        }
        x.take(0);
        x.move(9);
        x.take(1);
        type(x, "0123456789;0123456789;0123456789;0123456789;0;1;2;3;4;5;6;89");
    }

    private static void type(MakerLines x, String text) {
        for (char c : text.toCharArray()) {
            x.append(c);
        }
    }

    // ---- arguments that are just too small, just too great, or far off

    private static void argumentsOfBoards(String name, Story story) {
        int cells = made(story).count(0);
        int lines = made(story).count(1);
        for (int bad : new int[] {1, 11, 0, -1, -2, LEAST, GREATEST}) {
            refused(name + ": begin(" + bad + ")", story, ARGUMENT, x -> x.begin(bad));
        }
        for (int bad : new int[] {0, -1, 1 << cells, (1 << cells) + 1, LEAST, GREATEST, 1 << 30}) {
            refused(name + ": addLine(" + bad + ")", story, ARGUMENT, x -> x.addLine(bad));
        }
        for (int bad : new int[] {-1, lines, lines + 1, 12, LEAST, GREATEST}) {
            refused(name + ": removeLine(" + bad + ")", story, INDEX, x -> x.removeLine(bad));
        }
        for (int bad : new int[] {32, 127, 31, 128, 0, -1, 10, LEAST, GREATEST}) {
            refused(name + ": append(" + bad + ")", story, ARGUMENT, x -> x.append(bad));
        }
        for (int bad : new int[] {-1, 2, 3, LEAST, GREATEST}) {
            refused(name + ": take(" + bad + ")", story, INDEX, x -> x.take(bad));
            refused(name + ": restore(" + bad + ")", story, INDEX, x -> x.restore(bad));
        }
    }

    private static void argumentsOfGames(String name, Story story) {
        int cells = made(story).count(0);
        for (int bad : new int[] {-1, cells, cells + 1, 10, 31, 32, 33, -32, LEAST, GREATEST}) {
            refused(name + ": move(" + bad + ")", story, INDEX, x -> x.move(bad));
            refused(name + ": ifMoved(" + bad + ")", story, INDEX, x -> x.ifMoved(bad));
        }
        for (int bad : new int[] {-1, 4, 5, LEAST, GREATEST}) {
            refused(name + ": play(" + bad + ", 0, 1)", story, ARGUMENT, x -> x.play(bad, 0, 1));
            refused(name + ": play(3, " + bad + ", 10)", story, ARGUMENT, x -> x.play(3, bad, 10));
            refused(name + ": reply(" + bad + ")", story, ARGUMENT, x -> x.reply(bad));
            refused(name + ": ifPlayed(" + bad + ", 3)", story, ARGUMENT, x -> x.ifPlayed(bad, 3));
            refused(name + ": ifPlayed(0, " + bad + ")", story, ARGUMENT, x -> x.ifPlayed(0, bad));
        }
        for (int bad : new int[] {0, 11, -1, 12, LEAST, GREATEST}) {
            refused(name + ": play(0, 0, " + bad + ")", story, ARGUMENT, x -> x.play(0, 0, bad));
        }
    }

    private static void argumentsOfLooks(String name, Story story) {
        int cells = made(story).count(0);
        int lines = made(story).count(1);
        for (int bad : new int[] {-1, lines, lines + 1, 12, LEAST, GREATEST}) {
            refused(name + ": line(" + bad + ", 0)", story, INDEX, x -> x.line(bad, 0));
        }
        for (int bad : new int[] {-1, cells, cells + 1, 10, 32, -32, LEAST, GREATEST}) {
            refused(name + ": cell(" + bad + ", 0)", story, INDEX, x -> x.cell(bad, 0));
        }
        for (int bad : new int[] {-1, 5, 6, LEAST, GREATEST}) {
            String due = lines > 0 ? ARGUMENT : INDEX;
            refused(name + ": line(0, " + bad + ")", story, due, x -> x.line(0, bad));
        }
        for (int bad : new int[] {-1, 4, 5, LEAST, GREATEST}) {
            refused(name + ": cell(0, " + bad + ")", story, ARGUMENT, x -> x.cell(0, bad));
        }
        for (int bad : new int[] {-1, 2, 3, LEAST, GREATEST}) {
            refused(name + ": solved(" + bad + ")", story, ARGUMENT, x -> x.solved(bad));
        }
        for (int bad : new int[] {-1, 16, 17, LEAST, GREATEST}) {
            refused(name + ": count(" + bad + ")", story, ARGUMENT, x -> x.count(bad));
        }
    }

    // ---- arguments that are right, in states that refuse the call

    private static void states() {
        Map<String, Story> stories = stories();
        for (String over : new String[] {"new", "won by the maker", "won by the breaker"}) {
            Story story = stories.get(over);
            for (int cell = 0; cell < made(story).count(0); cell++) {
                int number = cell;
                refused(over + ": move(" + cell + ")", story, STATE, x -> x.move(number));
            }
            refused(over + ": skip()", story, STATE, x -> x.skip());
            refused(over + ": play(0, 0, 1)", story, STATE, x -> x.play(0, 0, 1));
            refused(over + ": play(3, 3, 10)", story, STATE, x -> x.play(3, 3, 10));
        }
        for (int taken : new int[] {0, 5}) {
            refused("open: move(" + taken + ")", stories.get("open"), STATE, x -> x.move(taken));
        }
        refused("the breaker's turn: move(2)", stories.get("the breaker's turn"), STATE, x -> x.move(2));
        refused("full: addLine(1)", stories.get("full"), STATE, x -> x.addLine(1));
        refused("full: addLine(1023)", stories.get("full"), STATE, x -> x.addLine(1023));
        refused("full: append(33)", stories.get("full"), STATE, x -> x.append(33));
        refused("full: append(126)", stories.get("full"), STATE, x -> x.append(126));
        refused("full: read()", stories.get("full"), STATE, x -> x.read());
        refused("new: restore(0)", stories.get("new"), STATE, x -> x.restore(0));
        refused("new: restore(1)", stories.get("new"), STATE, x -> x.restore(1));
        refused("open: restore(0)", stories.get("open"), STATE, x -> x.restore(0));
        refused("new: undo()", stories.get("new"), STATE, x -> x.undo());
        for (String text : new String[] {"new", "open", "the breaker's turn", "won by the maker",
            "won by the breaker"}) {
            refused(text + ": read()", stories.get(text), ARGUMENT, x -> x.read());
        }
        refused("all undone: undo()", RefusedTest::allUndone, STATE, x -> x.undo());
        refused("one line too many: read()", RefusedTest::oneTooMany, STATE, x -> x.read());
    }

    private static void allUndone(MakerLines x) {
        full(x);
        for (int i = 0; i < 6; i++) {
            x.undo();
        }
    }

    private static void oneTooMany(MakerLines x) {
        x.begin(4);
        for (int line = 0; line < 11; line++) {
            x.addLine(1 + line);
        }
        type(x, "0;1");
    }

    // ---- several exceptions apply: the one that is named first is thrown

    private static void whatComesFirst() {
        Map<String, Story> stories = stories();
        Story full = stories.get("full");
        Story over = stories.get("won by the maker");
        refused("12 lines: addLine(0)", full, ARGUMENT, x -> x.addLine(0));
        refused("12 lines: addLine(1024)", full, ARGUMENT, x -> x.addLine(1024));
        refused("not open: move(6)", over, INDEX, x -> x.move(6));
        refused("not open: move(-1)", over, INDEX, x -> x.move(-1));
        refused("not open: play(4, 0, 1)", over, ARGUMENT, x -> x.play(4, 0, 1));
        refused("not open: play(0, -1, 1)", over, ARGUMENT, x -> x.play(0, -1, 1));
        refused("not open: play(0, 0, 0)", over, ARGUMENT, x -> x.play(0, 0, 0));
        refused("not open: play(0, 0, 11)", over, ARGUMENT, x -> x.play(0, 0, 11));
        refused("60 characters: append(32)", full, ARGUMENT, x -> x.append(32));
        refused("60 characters: append(127)", full, ARGUMENT, x -> x.append(127));
        refused("no snapshots: restore(2)", stories.get("new"), INDEX, x -> x.restore(2));
        refused("no snapshots: restore(-1)", stories.get("new"), INDEX, x -> x.restore(-1));
        refused("no lines: line(0, 5)", stories.get("new"), INDEX, x -> x.line(0, 5));
        refused("12 lines: line(12, -1)", full, INDEX, x -> x.line(12, -1));
        refused("9 cells: cell(9, 4)", stories.get("new"), INDEX, x -> x.cell(9, 4));
        refused("9 cells: cell(-1, -1)", stories.get("new"), INDEX, x -> x.cell(-1, -1));
        refused("too many lines, not complete: read()", RefusedTest::tooManyNotComplete, ARGUMENT,
            x -> x.read());
        refused("12 lines, empty buffer: read()", RefusedTest::fullButEmptyBuffer, ARGUMENT, x -> x.read());
    }

    private static void tooManyNotComplete(MakerLines x) {
        oneTooMany(x);
        x.append(';');
    }

    private static void fullButEmptyBuffer(MakerLines x) {
        full(x);
        x.clearBuffer();
    }

    // ---- helpers

    private static MakerLines made(Story story) {
        MakerLines x = new MakerLines();
        story.tell(x);
        return x;
    }

    private static void refused(String what, Story story, String exception, Call call) {
        MakerLines x = made(story);
        same(what + " throws", thrown(x, call), exception);
        same(what + " changes nothing", all(x), all(made(story)));
    }

    private static void same(String what, String got, String due) {
        checks++;
        if (!got.equals(due)) {
            wrong++;
            System.out.println(what + ": " + got + ", due is " + due);
        }
    }

    private static String thrown(MakerLines x, Call call) {
        try {
            call.answer(x);
        } catch (RuntimeException e) {
            return e.getClass().getName();
        }
        return NOTHING;
    }

    /** All that an object holds, as digests; the object is of no use any more then. */
    private static String all(MakerLines x) {
        StringBuilder text = new StringBuilder();
        text.append(x.firstError()).append(' ').append(x.digest());
        for (int saved = x.count(15); saved > 0; saved--) {
            text.append(" undo ").append(x.undo()).append(' ').append(x.digest());
        }
        for (int snapshot = 0; snapshot < 2; snapshot++) {
            int number = snapshot;
            text.append(" snapshot ").append(thrown(x, y -> y.restore(number)));
            text.append(' ').append(x.digest());
        }
        return text.toString();
    }
}
