/** For each promise of the document: ordinary inputs, the edges that it names, and wrong inputs. */
public final class PromiseTest {
    private static final int NONE = MakerLines.NONE;
    private static final int[] WIDE = {
        Integer.MIN_VALUE, -65536, -2, -1, 16, 60, 1 << 20, Integer.MAX_VALUE};
    private static final String ARGUMENT = "java.lang.IllegalArgumentException";
    private static final String STATE = "java.lang.IllegalStateException";
    private static final String INDEX = "java.lang.IndexOutOfBoundsException";

    private static int checks = 0;
    private static int wrong = 0;

    public static void main(String[] args) {
        promise1New();
        promise2Begin();
        promise3AddLine();
        promise4RemoveLine();
        promise5Clear();
        promise6Move();
        promise7Skip();
        promise8Play();
        promise9Append();
        promise10ClearBuffer();
        promise11FirstError();
        promise12Read();
        promise13Take();
        promise14Restore();
        promise15Undo();
        promise15UndoOfEachCall();
        promise16Line();
        promise17Cell();
        promise17Pairings();
        promise18Reply();
        promise18RuleTwo();
        promise18RuleThree();
        promise19Solved();
        promise20IfMoved();
        promise21IfPlayed();
        promise22Count();
        promise23WeightShare();
        promise24Digest();
        System.out.println(checks + " checks, " + wrong + " wrong");
        if (wrong != 0) {
            System.exit(1);
        }
    }

    // ---- helpers

    private interface Call {
        long answer();
    }

    private static void due(String what, long got, long due) {
        checks++;
        if (got != due) {
            wrong++;
            System.out.println(what + " answered " + got + ", due is " + due);
        }
    }

    /** The call throws exactly this exception, and changes nothing. */
    private static void throwsBy(String what, MakerLines x, String exception, Call call) {
        checks++;
        long before = x.digest();
        String got = "nothing";
        try {
            call.answer();
        } catch (RuntimeException e) {
            got = e.getClass().getName();
        }
        if (!got.equals(exception)) {
            wrong++;
            System.out.println(what + " threw " + got + ", due is " + exception);
        }
        due(what + " changes nothing", x.digest(), before);
    }

    /** A board with lines that are told by their cells. */
    private static MakerLines board(int cells, String... lines) {
        MakerLines x = new MakerLines();
        x.begin(cells);
        add(x, lines);
        return x;
    }

    private static void add(MakerLines x, String... lines) {
        for (String line : lines) {
            x.addLine(mask(line));
        }
    }

    private static int mask(String cells) {
        int mask = 0;
        for (char cell : cells.toCharArray()) {
            mask |= 1 << (cell - '0');
        }
        return mask;
    }

    private static void type(MakerLines x, String text) {
        for (char c : text.toCharArray()) {
            x.append(c);
        }
    }

    private static void moves(MakerLines x, int... cells) {
        for (int cell : cells) {
            x.move(cell);
        }
    }

    /** The digest but for the number of saved states, by which calls that change nothing differ. */
    private static String looks(MakerLines x) {
        StringBuilder text = new StringBuilder();
        for (int what = 0; what < 15; what++) {
            text.append(x.count(what)).append(' ');
        }
        for (int i = 0; i < x.count(1); i++) {
            text.append(x.line(i, 0)).append(' ');
        }
        for (int k = 0; k < x.count(0); k++) {
            text.append(x.cell(k, 0)).append(' ');
        }
        for (int rule = 0; rule < 4; rule++) {
            text.append(x.reply(rule)).append(' ');
        }
        return text.toString();
    }

    private static void same(String what, String got, String due) {
        checks++;
        if (!got.equals(due)) {
            wrong++;
            System.out.println(what + ": " + got + ", due is " + due);
        }
    }

    // ---- board, lines

    private static void promise1New() {
        MakerLines x = new MakerLines();
        int[] due = {9, 0, 0, 0, 0, 2, 0, NONE, 0, 511, 0, 0, 0, NONE, 0, 0};
        for (int what = 0; what < due.length; what++) {
            due("new: count(" + what + ")", x.count(what), due[what]);
        }
        for (int cell = 0; cell < 9; cell++) {
            due("new: cell is free", x.cell(cell, 0), 0);
        }
        due("new: buffer", x.firstError(), 0);
        due("new: buffer", x.clearBuffer(), 0);
        due("NONE", NONE, -1);
        x.addLine(1);
        due("new: the maker is the mover", x.count(4), 1);
        MakerLines other = new MakerLines();
        due("new: objects share nothing", other.count(1), 0);
    }

    private static void promise2Begin() {
        MakerLines x = board(5, "012", "34");
        due("begin: cells", x.count(0), 5);
        moves(x, 3);
        x.append('0');
        x.take(1);
        due("begin(10)", x.begin(10), 5);
        due("begin: cells", x.count(0), 10);
        due("begin: lines", x.count(1), 0);
        due("begin: free", x.count(9), 1023);
        due("begin: latest", x.count(13), NONE);
        due("begin: moves stay", x.count(10), 1);
        due("begin: snapshots stay", x.count(14), 1);
        due("begin: buffer stays", x.firstError(), 1);
        due("begin: saved", x.count(15), 5);
        add(x, "9");
        due("begin: the maker is the mover", x.count(4), 1);
        due("begin(2)", x.begin(2), 10);
        due("begin(2) again", x.begin(2), 2);
        due("begin: free", x.count(9), 3);
        for (int cells : new int[] {1, 0, 11, -1, Integer.MIN_VALUE, Integer.MAX_VALUE}) {
            throwsBy("begin(" + cells + ")", x, ARGUMENT, () -> x.begin(cells));
        }
        x.undo();
        x.undo();
        due("begin: undone", x.count(0), 10);
        x.undo();
        x.undo();
        due("begin: undone", x.count(0), 5);
        due("begin: undone, latest", x.count(13), 3);
        MakerLines won = board(3, "0");
        moves(won, 0);
        won.begin(3);
        due("begin: won games stay", won.count(11), 1);
    }

    private static void promise3AddLine() {
        MakerLines x = new MakerLines();
        due("addLine", x.addLine(1), 0);
        due("addLine", x.addLine(511), 1);
        due("addLine, same", x.addLine(511), 2);
        for (int mask : new int[] {0, 512, 513, 1024, -1, Integer.MIN_VALUE, Integer.MAX_VALUE}) {
            throwsBy("addLine(" + mask + ")", x, ARGUMENT, () -> x.addLine(mask));
        }
        due("addLine: saved", x.count(15), 3);
        for (int line = 3; line < 12; line++) {
            due("addLine", x.addLine(line), line);
        }
        throwsBy("addLine, the thirteenth", x, STATE, () -> x.addLine(3));
        throwsBy("addLine, the thirteenth, 0", x, ARGUMENT, () -> x.addLine(0));
        due("addLine: undone", x.undo(), 5);
        due("addLine: undone", x.count(1), 11);
        MakerLines ten = board(10, "9");
        due("addLine, ten cells", ten.addLine(1023), 1);
        MakerLines two = board(2);
        throwsBy("addLine, two cells", two, ARGUMENT, () -> two.addLine(4));
        moves(ten, 0, 9);
        due("addLine: the breaker has won", ten.count(5), 2);
        due("addLine: games", ten.count(12), 1);
        due("addLine: full at once", ten.addLine(1), 2);
        due("addLine: the maker has won", ten.count(5), 1);
        due("addLine: not by a move", ten.count(11), 0);
    }

    private static void promise4RemoveLine() {
        MakerLines x = board(6, "01", "23", "45");
        throwsBy("removeLine(3)", x, INDEX, () -> x.removeLine(3));
        for (int line : WIDE) {
            throwsBy("removeLine(" + line + ")", x, INDEX, () -> x.removeLine(line));
        }
        due("removeLine", x.removeLine(0), 3);
        due("removeLine: numbers", x.line(0, 0), 12);
        due("removeLine: numbers", x.line(1, 0), 48);
        due("removeLine: lines", x.count(1), 2);
        due("removeLine, the last one", x.removeLine(1), 48);
        due("removeLine: lines", x.line(0, 0), 12);
        x.undo();
        due("removeLine: undone", x.undo(), 4);
        due("removeLine: undone", x.line(0, 0), 3);
        due("removeLine: undone", x.line(2, 0), 48);
        moves(x, 0, 2, 1);
        due("removeLine: the maker has won", x.count(5), 1);
        due("removeLine: full", x.removeLine(0), 3);
        due("removeLine: open again", x.count(5), 0);
        due("removeLine: turns are taken by the last move, too", x.count(4), 2);
        due("removeLine: latest stays", x.count(13), 1);
        MakerLines none = new MakerLines();
        throwsBy("removeLine, no lines", none, INDEX, () -> none.removeLine(0));
    }

    private static void promise5Clear() {
        MakerLines x = board(4, "01", "23");
        moves(x, 0, 1, 2);
        due("clear", x.clear(true), 3);
        due("clear: free", x.count(9), 15);
        due("clear: mover", x.count(4), 1);
        due("clear: lines stay", x.count(1), 2);
        due("clear: latest", x.count(13), NONE);
        due("clear: moves stay", x.count(10), 3);
        due("clear, nothing to free", x.clear(false), 0);
        due("clear: mover", x.count(4), 2);
        due("clear: saved", x.count(15), 6);
        x.undo();
        due("clear: undone", x.count(4), 1);
        x.undo();
        due("clear: undone", x.count(9), 8);
        due("clear: undone", x.count(13), 2);
        due("clear: undone, rule 2", x.reply(2), 3);
    }

    // ---- moves

    private static void promise6Move() {
        MakerLines x = board(5, "01", "234");
        for (int cell : new int[] {-1, 5, 9, 31, 32, Integer.MIN_VALUE, Integer.MAX_VALUE}) {
            throwsBy("move(" + cell + ")", x, INDEX, () -> x.move(cell));
        }
        due("move", x.move(2), 0);
        due("move: whose", x.cell(2, 0), 1);
        due("move: mover", x.count(4), 2);
        due("move: latest", x.count(13), 2);
        throwsBy("move, not free", x, STATE, () -> x.move(2));
        due("move", x.move(1), 0);
        due("move: whose", x.cell(1, 0), 2);
        throwsBy("move, not free", x, STATE, () -> x.move(1));
        due("move", x.move(3), 0);
        due("move, the breaker wins", x.move(4), 2);
        due("move: games of the breaker", x.count(12), 1);
        due("move: games of the maker", x.count(11), 0);
        due("move: moves", x.count(10), 4);
        throwsBy("move, not open", x, STATE, () -> x.move(0));
        throwsBy("move, not open, no such cell", x, INDEX, () -> x.move(5));
        due("move: undone", x.undo(), 5);
        due("move: undone", x.count(12), 0);
        due("move: undone", x.count(10), 3);
        due("move: undone", x.count(13), 3);
        x.clear(true);
        moves(x, 0, 4);
        due("move, the maker wins", x.move(1), 1);
        due("move: games of the maker", x.count(11), 1);
        due("move: the mover of no open game", x.count(4), 0);
        MakerLines none = new MakerLines();
        throwsBy("move, no lines", none, STATE, () -> none.move(0));
        throwsBy("move, no lines, no such cell", none, INDEX, () -> none.move(9));
    }

    private static void promise7Skip() {
        MakerLines none = new MakerLines();
        throwsBy("skip, not open", none, STATE, () -> none.skip());
        MakerLines x = board(6, "01", "2345");
        due("skip", x.skip(), 2);
        due("skip: mover", x.count(4), 2);
        due("skip", x.skip(), 1);
        moves(x, 4);
        due("skip: rule 2 ahead", x.reply(2), 0);
        x.undo();
        moves(x, 2);
        due("skip: the pair's other cell", x.reply(2), 3);
        due("skip", x.skip(), 1);
        due("skip: latest", x.count(13), NONE);
        due("skip: rule 2 is rule 1", x.reply(2), x.reply(1));
        due("skip: moves", x.count(10), 1);
        x.skip();
        due("skip: rule 2 is rule 1", x.reply(2), 0);
        x.undo();
        x.undo();
        due("skip: undone", x.count(13), 2);
        due("skip: undone", x.reply(2), 3);
    }

    private static void promise8Play() {
        MakerLines none = new MakerLines();
        throwsBy("play, not open", none, STATE, () -> none.play(0, 0, 1));
        throwsBy("play, not open, rule", none, ARGUMENT, () -> none.play(4, 0, 1));
        MakerLines x = board(6, "01", "45");
        for (int bad : new int[] {-1, 4, Integer.MIN_VALUE, Integer.MAX_VALUE}) {
            throwsBy("play, maker " + bad, x, ARGUMENT, () -> x.play(bad, 0, 1));
            throwsBy("play, breaker " + bad, x, ARGUMENT, () -> x.play(0, bad, 1));
        }
        for (int bad : new int[] {0, 11, -1, Integer.MIN_VALUE, Integer.MAX_VALUE}) {
            throwsBy("play, moves " + bad, x, ARGUMENT, () -> x.play(0, 0, bad));
        }
        due("play, one move", x.play(0, 3, 1), 1);
        due("play: lowest", x.count(13), 0);
        due("play, by the breaker's rule", x.play(3, 1, 1), 1);
        due("play: forced", x.count(13), 1);
        due("play, on to the end", x.play(0, 2, 10), 2);
        due("play: the maker's lowest", x.cell(2, 0), 1);
        due("play: the breaker's danger", x.cell(4, 0), 2);
        due("play: moves", x.count(10), 4);
        due("play: won", x.count(5), 2);
        due("play: games of the breaker", x.count(12), 1);
        due("play: undone as one call", x.undo(), 5);
        due("play: undone", x.count(10), 2);
        due("play: undone", x.count(12), 0);
        MakerLines y = board(10, "01", "0123456789");
        due("play, not more than told", y.play(0, 0, 2), 2);
        due("play: two moves", y.count(9), 1020);
        MakerLines z = board(10, "123456789", "01");
        z.skip();
        due("play, the breaker first", z.play(0, 0, 10), 3);
        MakerLines ten = board(10, "89", "79");
        due("play, to the last cell", ten.play(0, 0, 10), 10);
        due("play: the breaker's last cell", ten.count(5), 2);
        MakerLines win = board(4, "1", "2");
        due("play, the maker wins", win.play(0, 1, 10), 3);
        due("play: who has won", win.count(5), 1);
        due("play: games of the maker", win.count(11), 1);
    }

    private static void promise9Append() {
        MakerLines x = new MakerLines();
        for (int code : new int[] {32, 127, 0, -1, 128, 255, Integer.MIN_VALUE, Integer.MAX_VALUE}) {
            throwsBy("append(" + code + ")", x, ARGUMENT, () -> x.append(code));
        }
        due("append(33)", x.append(33), 1);
        due("append(126)", x.append(126), 2);
        for (int length = 3; length <= 60; length++) {
            due("append", x.append('0'), length);
        }
        throwsBy("append, 60 characters", x, STATE, () -> x.append('0'));
        throwsBy("append, 60 characters, 32", x, ARGUMENT, () -> x.append(32));
        due("append is not undoable", x.count(15), 0);
        due("append: length", x.clearBuffer(), 60);
    }

    private static void promise10ClearBuffer() {
        MakerLines x = new MakerLines();
        due("clearBuffer, empty", x.clearBuffer(), 0);
        type(x, "01;");
        due("clearBuffer", x.clearBuffer(), 3);
        due("clearBuffer, again", x.clearBuffer(), 0);
        due("clearBuffer: firstError", x.firstError(), 0);
        due("clearBuffer is not undoable", x.count(15), 0);
        due("clearBuffer: append", x.append('5'), 1);
    }

    private static void promise11FirstError() {
        String[][] cases = {
            {"9", "", "0"}, {"9", "0", "1"}, {"9", "012345678", "9"}, {"9", "9", "0"}, {"9", "09", "1"},
            {"10", "09", "2"}, {"9", ";", "0"}, {"9", "0;", "2"}, {"9", "0;;", "2"}, {"9", "00", "1"},
            {"9", "10", "1"}, {"9", "8;0", "3"}, {"9", "81", "1"}, {"9", "8:", "1"}, {"9", "8/", "1"},
            {"9", "/", "0"}, {"9", ":", "0"}, {"9", "0,1", "1"}, {"9", "0;1x;2", "3"}, {"2", "01;1;0", "6"},
            {"2", "2", "0"}, {"2", "01;2", "3"}, {"2", "012", "2"}, {"9", "0;1;2;3;4;5;6;7;8;0;1;2;3;4", "27"},
            {"9", "!", "0"}, {"9", "~", "0"}, {"9", "0!", "1"}, {"10", "9;", "2"}, {"10", "99", "1"},
            {"9", "0;1;2;3;4;5;6;7;8;0;1;2;3;4;5;6;7;8;0;1;2;3;4;5;6;7;8;0;1;2;", "60"}};
        for (String[] one : cases) {
            MakerLines x = board(Integer.parseInt(one[0]));
            type(x, one[1]);
            due("firstError of " + one[1], x.firstError(), Integer.parseInt(one[2]));
        }
        MakerLines x = board(9);
        type(x, "058");
        x.begin(8);
        due("firstError goes by the cells that there are", x.firstError(), 2);
    }

    private static void promise12Read() {
        MakerLines x = board(9, "0");
        throwsBy("read, empty", x, ARGUMENT, () -> x.read());
        for (String text : new String[] {"0;", ";", "00", "9", "0;;1", "12;3a", "21"}) {
            type(x, text);
            throwsBy("read of " + text, x, ARGUMENT, () -> x.read());
            due("read keeps the buffer", x.clearBuffer(), text.length());
        }
        type(x, "012;8;08");
        due("read", x.read(), 4);
        due("read: behind those that there are", x.line(0, 0), 1);
        due("read: mask", x.line(1, 0), 7);
        due("read: mask", x.line(2, 0), 256);
        due("read: mask", x.line(3, 0), 257);
        due("read clears the buffer", x.clearBuffer(), 0);
        due("read: saved as one", x.count(15), 3);
        type(x, "1;1;1;1;1;1;1;1;1");
        throwsBy("read, thirteen lines", x, STATE, () -> x.read());
        due("read keeps the buffer", x.clearBuffer(), 17);
        type(x, "1;1;1;1;1;1;1;1;1;");
        throwsBy("read, thirteen lines, not complete", x, ARGUMENT, () -> x.read());
        x.clearBuffer();
        type(x, "1;2;3;4;5;6;7;8");
        due("read, twelve lines", x.read(), 12);
        due("read: the last one", x.line(11, 0), 256);
        type(x, "5");
        due("read: undone", x.undo(), 3);
        due("read: undone as one call", x.count(1), 4);
        due("read: the buffer is not undone", x.clearBuffer(), 1);
        type(x, "3");
        due("read, one cell", x.read(), 5);
        MakerLines y = board(10);
        type(y, "0123456789;0123456789;0123456789;0123456789;0;1;2;3;4;5;6;89");
        due("read: no error in 60 characters", y.firstError(), 60);
        due("read, 60 characters", y.read(), 12);
        due("read: the last one", y.line(11, 0), 768);
    }

    // ---- snapshots, undo

    private static void promise13Take() {
        MakerLines x = board(4, "01", "23");
        for (int bad : new int[] {-1, 2, Integer.MIN_VALUE, Integer.MAX_VALUE}) {
            throwsBy("take(" + bad + ")", x, INDEX, () -> x.take(bad));
        }
        due("take(1)", x.take(1), 2);
        due("take: taken", x.count(14), 1);
        due("take: undoable it is not", x.count(15), 3);
        due("take(0)", x.take(0), 2);
        due("take: taken", x.count(14), 2);
        x.addLine(8);
        due("take(0), in place", x.take(0), 3);
        due("take: taken", x.count(14), 2);
        x.begin(9);
        due("take: the new one", x.restore(0), 3);
        due("take: the old one", x.restore(1), 2);
        due("take: cells", x.count(0), 4);
        x.undo();
        due("take: snapshots are not undone", x.count(14), 2);
    }

    private static void promise14Restore() {
        MakerLines x = board(4, "01", "23");
        throwsBy("restore, not taken", x, STATE, () -> x.restore(0));
        for (int bad : new int[] {-1, 2, Integer.MIN_VALUE, Integer.MAX_VALUE}) {
            throwsBy("restore(" + bad + ")", x, INDEX, () -> x.restore(bad));
        }
        moves(x, 2);
        x.take(0);
        throwsBy("restore, the other one", x, STATE, () -> x.restore(1));
        moves(x, 0, 3);
        due("restore: the maker has won", x.count(11), 1);
        x.removeLine(0);
        x.append('0');
        due("restore", x.restore(0), 2);
        due("restore: free", x.count(9), 11);
        due("restore: mover", x.count(4), 2);
        due("restore: latest", x.count(13), 2);
        due("restore: rule 2 knows the pair", x.reply(2), 3);
        due("restore: what is counted stays", x.count(10), 3);
        due("restore: what is counted stays", x.count(11), 1);
        due("restore: the buffer stays", x.clearBuffer(), 1);
        due("restore: saved", x.count(15), 6);
        x.begin(9);
        due("restore: it stays", x.restore(0), 2);
        due("restore: cells", x.count(0), 4);
        due("restore: undone", x.undo(), 5);
        due("restore: undone", x.count(0), 9);
        due("restore: objects share nothing", board(3).count(14), 0);
    }

    private static void promise15Undo() {
        MakerLines x = new MakerLines();
        throwsBy("undo, none", x, STATE, () -> x.undo());
        for (int cells = 2; cells <= 9; cells++) {
            x.begin(cells);
            due("undo: at most 6 are saved", x.count(15), Math.min(6, cells - 1));
        }
        for (int left = 5; left >= 0; left--) {
            due("undo", x.undo(), left);
            due("undo: the latest state", x.count(0), left + 3);
        }
        throwsBy("undo, the oldest ones are dropped", x, STATE, () -> x.undo());
        x.begin(10);
        due("undo, again", x.undo(), 0);
        due("undo, again", x.count(0), 3);
    }

    private static void promise15UndoOfEachCall() {
        for (int kind = 0; kind < 9; kind++) {
            MakerLines x = board(6, "01", "23", "0145");
            moves(x, 2, 3);
            x.take(0);
            moves(x, 4);
            type(x, "5");
            String before = looks(x);
            undoable(x, kind);
            due("undo: saved by call " + kind, x.count(15), 6);
            due("undo: changed by call " + kind, looks(x).equals(before) ? 1 : 0, 0);
            due("undo: left by call " + kind, x.undo(), 5);
            same("undo of call " + kind, looks(x), before);
        }
        MakerLines x = new MakerLines();
        x.begin(9);
        x.clear(true);
        x.take(1);
        x.restore(1);
        due("undo: saved also if nothing changes", x.count(15), 3);
        type(x, "5");
        x.firstError();
        x.digest();
        x.clearBuffer();
        due("undo: not saved by calls that are not undoable", x.count(15), 3);
    }

    /** Makes one of the calls that are undoable. */
    private static void undoable(MakerLines x, int kind) {
        switch (kind) {
            case 0: x.begin(x.count(0)); break;
            case 1: x.addLine(1); break;
            case 2: x.removeLine(0); break;
            case 3: x.clear(x.count(4) == 1); break;
            case 4: x.move(x.reply(0)); break;
            case 5: x.skip(); break;
            case 6: x.play(0, 0, 10); break;
            case 7: x.restore(0); break;
            default: x.read(); break;
        }
    }

    // ---- looks

    private static void promise16Line() {
        MakerLines x = board(6, "012", "345", "13");
        int[][] due = {{7, 0, 3, 128, 0}, {56, 0, 3, 128, 0}, {10, 0, 2, 256, 0}};
        lines(x, due);
        moves(x, 1, 5);
        int[][] then = {{7, 0, 2, 256, 1}, {56, 1, 2, 0, 0}, {10, 0, 1, 512, 1}};
        lines(x, then);
        moves(x, 3);
        int[][] last = {{7, 0, 2, 256, 1}, {56, 1, 1, 0, 1}, {10, 0, 0, 1024, 2}};
        lines(x, last);
        for (int bad : new int[] {3, -1, 12, Integer.MIN_VALUE, Integer.MAX_VALUE}) {
            throwsBy("line(" + bad + ", 0)", x, INDEX, () -> x.line(bad, 0));
            throwsBy("line(" + bad + ", 5)", x, INDEX, () -> x.line(bad, 5));
        }
        for (int bad : new int[] {5, -1, Integer.MIN_VALUE, Integer.MAX_VALUE}) {
            throwsBy("line(0, " + bad + ")", x, ARGUMENT, () -> x.line(0, bad));
        }
        MakerLines ten = board(10, "0123456789");
        due("line, ten free cells", ten.line(0, 3), 1);
        due("line, ten free cells", ten.line(0, 2), 10);
    }

    private static void lines(MakerLines x, int[][] due) {
        for (int line = 0; line < due.length; line++) {
            for (int what = 0; what < 5; what++) {
                due("line(" + line + ", " + what + ")", x.line(line, what), due[line][what]);
            }
        }
    }

    private static void promise17Cell() {
        MakerLines x = board(6, "012", "345", "13");
        int[] dangers = {128, 384, 128, 384, 128, 128};
        int[] alive = {1, 2, 1, 2, 1, 1};
        for (int cell = 0; cell < 6; cell++) {
            due("cell: danger", x.cell(cell, 1), dangers[cell]);
            due("cell: lines", x.cell(cell, 3), alive[cell]);
        }
        moves(x, 1, 5);
        int[][] due = {{0, 256, NONE, 1}, {1, 0, NONE, 2}, {0, 256, NONE, 1}, {0, 512, NONE, 1},
            {0, 0, NONE, 0}, {2, 0, NONE, 0}};
        for (int cell = 0; cell < 6; cell++) {
            for (int what = 0; what < 4; what++) {
                due("cell(" + cell + ", " + what + ")", x.cell(cell, what), due[cell][what]);
            }
        }
        for (int bad : new int[] {6, -1, 9, 32, Integer.MIN_VALUE, Integer.MAX_VALUE}) {
            throwsBy("cell(" + bad + ", 0)", x, INDEX, () -> x.cell(bad, 0));
            throwsBy("cell(" + bad + ", 4)", x, INDEX, () -> x.cell(bad, 4));
        }
        for (int bad : new int[] {4, -1, Integer.MIN_VALUE, Integer.MAX_VALUE}) {
            throwsBy("cell(0, " + bad + ")", x, ARGUMENT, () -> x.cell(0, bad));
        }
    }

    private static void promise17Pairings() {
        pairs(board(4, "01", "23"), 2, 1, 0, 3, 2);
        pairs(board(4, "23", "01"), 2, 1, 0, 3, 2);
        pairs(board(4, "123"), 1, NONE, 2, 1, NONE);
        // The first pair of the first line is held by the second one, too.
        pairs(board(4, "012", "01"), 1, 1, 0, NONE, NONE);
        // The first two choices for the first line leave none for the second one.
        pairs(board(4, "012", "03"), 2, 3, 2, 1, 0);
        pairs(board(3, "01", "02"), NONE, NONE, NONE, NONE);
        pairs(board(3, "0"), NONE, NONE, NONE, NONE);
        pairs(board(5, "01234", "0123", "012", "34"), 2, 1, 0, NONE, 4, 3);
        // 01, 24, 35 leave none for the last line, so the search goes back to the first one.
        pairs(board(6, "0123", "024", "135", "45"), 3, 2, 3, 0, 1, 5, 4);
        MakerLines dead = board(4, "01", "02");
        dead.clear(false);
        dead.move(0);
        pairs(dead, 0, NONE, NONE, NONE, NONE);
        MakerLines full = board(3, "0", "12");
        full.move(0);
        pairs(full, NONE, NONE, NONE, NONE);
        MakerLines taken = board(5, "0123", "04");
        moves(taken, 1, 0);
        pairs(taken, 0, NONE, NONE, NONE, NONE, NONE);
        MakerLines half = board(6, "0123", "45");
        moves(half, 0, 5);
        pairs(half, 1, NONE, 2, 1, NONE, NONE, NONE);
    }

    private static void pairs(MakerLines x, int size, int... partners) {
        due("pairing: size", x.count(8), size);
        for (int cell = 0; cell < partners.length; cell++) {
            due("pairing: cell " + cell, x.cell(cell, 2), partners[cell]);
        }
    }

    private static void promise18Reply() {
        MakerLines x = new MakerLines();
        for (int rule = 0; rule < 4; rule++) {
            due("reply, not open", x.reply(rule), NONE);
        }
        for (int bad : new int[] {4, -1, Integer.MIN_VALUE, Integer.MAX_VALUE}) {
            throwsBy("reply(" + bad + ")", x, ARGUMENT, () -> x.reply(bad));
        }
        MakerLines y = board(6, "234", "345", "5");
        due("reply(0)", y.reply(0), 0);
        due("reply(1), forced", y.reply(1), 5);
        due("reply(2), forced", y.reply(2), 5);
        y.skip();
        due("reply(1), forced for the breaker", y.reply(1), 5);
        y.removeLine(2);
        due("reply(1), greatest danger, the lowest", y.reply(1), 3);
        y.addLine(mask("45"));
        due("reply(1), greatest danger", y.reply(1), 4);
        y.addLine(mask("2"));
        y.addLine(mask("1"));
        due("reply(1), the lowest threat", y.reply(1), 1);
        y.move(0);
        due("reply(0), the lowest free cell", y.reply(0), 1);
    }

    private static void promise18RuleTwo() {
        MakerLines x = board(8, "0123", "45", "567");
        due("rule 2, no move", x.reply(2), x.reply(1));
        moves(x, 3);
        due("rule 2, in no pair", x.reply(2), x.reply(1));
        x.undo();
        moves(x, 1);
        due("rule 2, the other cell", x.reply(2), 0);
        x.removeLine(0);
        add(x, "67");
        due("rule 2, the lines as they were then", x.reply(2), 0);
        due("rule 1, the lines that there are", x.reply(1), 5);
        moves(x, 4);
        due("rule 2, for the maker", x.reply(2), 5);
        due("rule 1, for the maker", x.reply(1), 6);
        MakerLines y = board(8, "01", "23", "45");
        moves(y, 0, 1, 2);
        due("rule 2", y.reply(2), 3);
        y.play(0, 2, 1);
        due("rule 2, played", y.count(13), 3);
        y.skip();
        due("rule 2, skipped", y.reply(2), y.reply(1));
        y.clear(true);
        due("rule 2, cleared", y.reply(2), y.reply(1));
        MakerLines z = board(6, "01", "234");
        z.clear(false);
        moves(z, 2);
        due("rule 2 for the maker, ahead of the breaker's move", z.reply(2), 3);
        due("rule 1 there", z.reply(1), 0);
        MakerLines no = board(4, "01", "02");
        moves(no, 1);
        due("rule 2, no pairing", no.reply(2), 0);
    }

    private static void promise18RuleThree() {
        due("rule 3, the shortest win", board(5, "01", "02", "4").reply(3), 4);
        due("rule 3, the lowest of wins", board(5, "12", "13", "23").reply(3), 1);
        due("rule 3, the maker loses", board(4, "23").reply(3), 0);
        MakerLines x = board(5, "12", "13", "4");
        x.skip();
        due("rule 3, the breaker loses as late as can be", x.reply(3), 4);
        due("rule 3, length", x.solved(1), 4);
        MakerLines y = board(4, "12", "13");
        y.skip();
        due("rule 3, the lowest one that holds", y.reply(3), 1);
        MakerLines z = board(4, "0", "1");
        z.skip();
        due("rule 3, the lowest of losses", z.reply(3), 0);
    }

    private static void promise19Solved() {
        MakerLines x = new MakerLines();
        due("solved, the breaker has won", x.solved(0), 2);
        due("solved, not open", x.solved(1), 0);
        for (int bad : new int[] {2, -1, Integer.MIN_VALUE, Integer.MAX_VALUE}) {
            throwsBy("solved(" + bad + ")", x, ARGUMENT, () -> x.solved(bad));
        }
        solved(board(3, "01", "02"), 1, 3);
        solved(board(3, "2"), 1, 1);
        solved(board(4, "01", "23"), 2, 4);
        solved(board(9, "012", "345", "678", "036", "147", "258", "048", "246"), 1, 7);
        solved(board(10, "01", "12"), 1, 3);
        MakerLines y = board(3, "01", "02");
        y.skip();
        solved(y, 2, 3);
        y.skip();
        y.move(0);
        solved(y, 1, 2);
        y.move(1);
        solved(y, 1, 1);
        y.move(2);
        due("solved, the maker has won", y.solved(0), 1);
        due("solved, not open", y.solved(1), 0);
    }

    private static void solved(MakerLines x, int winner, int length) {
        due("solved(0)", x.solved(0), winner);
        due("solved(1)", x.solved(1), length);
        due("solved(0), again", x.solved(0), winner);
    }

    private static void promise20IfMoved() {
        MakerLines x = board(4, "01", "02");
        for (int bad : new int[] {4, -1, 9, 32, Integer.MIN_VALUE, Integer.MAX_VALUE}) {
            throwsBy("ifMoved(" + bad + ")", x, INDEX, () -> x.ifMoved(bad));
        }
        long before = x.digest();
        int[] due = {1, 2, 2, 2};
        for (int cell = 0; cell < 4; cell++) {
            due("ifMoved", x.ifMoved(cell), due[cell]);
        }
        due("ifMoved changes nothing", x.digest(), before);
        moves(x, 3, 0);
        for (int cell = 0; cell < 4; cell++) {
            due("ifMoved, not open", x.ifMoved(cell), NONE);
        }
        x.undo();
        due("ifMoved, for the breaker", x.ifMoved(0), 2);
        due("ifMoved, not free", x.ifMoved(3), NONE);
        MakerLines y = board(3, "0", "1");
        due("ifMoved, wins at once", y.ifMoved(0), 1);
        due("ifMoved, does not win at once", y.ifMoved(2), 1);
        y.skip();
        due("ifMoved, two threats", y.ifMoved(0), 1);
        due("ifMoved, games are not counted", y.count(11), 0);
        due("ifMoved, moves are not counted", y.count(10), 0);
    }

    private static void promise21IfPlayed() {
        MakerLines x = new MakerLines();
        for (int bad : new int[] {4, -1, Integer.MIN_VALUE, Integer.MAX_VALUE}) {
            throwsBy("ifPlayed(" + bad + ", 0)", x, ARGUMENT, () -> x.ifPlayed(bad, 0));
            throwsBy("ifPlayed(0, " + bad + ")", x, ARGUMENT, () -> x.ifPlayed(0, bad));
        }
        due("ifPlayed, the breaker has won", x.ifPlayed(0, 0), 2);
        MakerLines y = board(4, "02", "13");
        long before = y.digest();
        due("ifPlayed(0, 0)", y.ifPlayed(0, 0), 1);
        due("ifPlayed(0, 1)", y.ifPlayed(0, 1), 2);
        due("ifPlayed(3, 3)", y.ifPlayed(3, 3), 2);
        due("ifPlayed changes nothing", y.digest(), before);
        due("ifPlayed: count", y.count(10), 0);
        due("ifPlayed: games", y.count(11) + y.count(12), 0);
        due("ifPlayed: saved", y.count(15), 3);
        moves(y, 0);
        due("ifPlayed(0, 2)", y.ifPlayed(0, 2), 2);
        due("ifPlayed(0, 0)", y.ifPlayed(0, 0), 1);
        moves(y, 1, 2);
        due("ifPlayed, the maker has won", y.ifPlayed(0, 0), 1);
        due("ifPlayed, ten cells", board(10, "0123456789").ifPlayed(0, 0), 2);
        MakerLines z = board(6, "01");
        moves(z, 0);
        add(z, "23", "24");
        z.removeLine(0);
        due("ifPlayed goes on from the latest move", z.ifPlayed(1, 2), 1);
        due("ifPlayed, by rule 1", z.ifPlayed(1, 1), 2);
    }

    private static void promise22Count() {
        MakerLines x = board(7, "01", "23", "456", "24");
        for (int bad : new int[] {16, -1, Integer.MIN_VALUE, Integer.MAX_VALUE}) {
            throwsBy("count(" + bad + ")", x, ARGUMENT, () -> x.count(bad));
        }
        counts(x, 7, 4, 4, 896, 1, 0, 0, NONE, NONE, 127, 0, 0, 0, NONE, 0, 5);
        moves(x, 4);
        counts(x, 7, 4, 4, 1280, 2, 0, 4, 2, NONE, 111, 1, 0, 0, 4, 0, 6);
        moves(x, 6);
        counts(x, 7, 4, 3, 1024, 1, 0, 4, 2, NONE, 47, 2, 0, 0, 6, 0, 6);
        x.take(1);
        moves(x, 2);
        counts(x, 7, 4, 3, 1792, 0, 1, 8, NONE, NONE, 43, 3, 1, 0, 2, 1, 6);
        x.removeLine(3);
        counts(x, 7, 3, 2, 768, 2, 0, 8, 3, NONE, 43, 3, 1, 0, 2, 1, 6);
        moves(x, 3, 5);
        counts(x, 7, 3, 1, 256, 2, 0, 0, NONE, 1, 3, 5, 1, 0, 5, 1, 6);
        moves(x, 0);
        counts(x, 7, 3, 0, 0, 0, 2, 0, NONE, 0, 2, 6, 1, 1, 0, 1, 6);
    }

    private static void counts(MakerLines x, int... due) {
        for (int what = 0; what < due.length; what++) {
            due("count(" + what + ")", x.count(what), due[what]);
        }
    }

    private static void promise23WeightShare() {
        share(new MakerLines(), 0.0);
        share(board(10, "0123456789"), 1.0 / 1024);
        share(board(10, "0123456789", "0123456789"), 2.0 / 1024);
        share(board(10, "0123456789", "0123456789", "0123456789"), 3.0 / 1024);
        share(board(10, "012345678", "0123456789"), 3.0 / 1024);
        share(board(4, "01", "012", "3"), 0.875);
        MakerLines x = board(3, "0", "01", "12");
        share(x, 1.0);
        x.move(0);
        share(x, 1.75);
        MakerLines full = board(2, "0", "0", "0", "0", "0", "0", "0", "0", "0", "0", "0", "0");
        full.move(0);
        share(full, 12.0);
    }

    private static void share(MakerLines x, double due) {
        due("weightShare", Double.doubleToRawLongBits(x.weightShare()), Double.doubleToRawLongBits(due));
        due("digest of a share", x.digest(), hash(x, ""));
    }

    private static void promise24Digest() {
        MakerLines x = new MakerLines();
        due("digest, new", x.digest(), hash(x, ""));
        type(x, "012;");
        due("digest, buffer", x.digest(), hash(x, "012;"));
        type(x, "345;~");
        due("digest, buffer", x.digest(), hash(x, "012;345;~"));
        x.clearBuffer();
        type(x, "012;345;678;036;147;258;048;246");
        x.read();
        due("digest, lines", x.digest(), hash(x, ""));
        for (int cell : new int[] {8, 0, 1, 7, 4, 3, 6}) {
            if (x.count(5) == 0) {
                x.move(cell);
            }
            due("digest, moves", x.digest(), hash(x, ""));
        }
        x.take(0);
        due("digest, snapshot", x.digest(), hash(x, ""));
        int saved = x.count(15);
        due("digest, twice", x.digest(), x.digest());
        due("digest changes nothing", x.count(15), saved);
        MakerLines other = new MakerLines();
        other.append('0');
        due("digest, other buffers differ", other.digest() == new MakerLines().digest() ? 1 : 0, 0);
    }

    /** The digest as the document tells it, by the looks of the face. */
    private static long hash(MakerLines x, String buffer) {
        long hash = 2503;
        for (int what = 0; what <= 15; what++) {
            hash = 31 * hash + x.count(what);
        }
        for (int line = 0; line < x.count(1); line++) {
            for (int what = 0; what <= 4; what++) {
                hash = 31 * hash + x.line(line, what);
            }
        }
        for (int cell = 0; cell < x.count(0); cell++) {
            for (int what = 0; what <= 3; what++) {
                hash = 31 * hash + x.cell(cell, what);
            }
            hash = 31 * hash + x.ifMoved(cell);
        }
        long[] rest = {x.reply(0), x.reply(1), x.reply(2), x.reply(3), x.solved(0), x.solved(1),
            x.ifPlayed(1, 1), x.ifPlayed(1, 2), x.ifPlayed(2, 3), x.ifPlayed(3, 1),
            Double.doubleToLongBits(x.weightShare()), buffer.length()};
        for (long v : rest) {
            hash = 31 * hash + v;
        }
        for (char code : buffer.toCharArray()) {
            hash = 31 * hash + code;
        }
        return hash;
    }
}
