import java.io.File;
import java.io.IOException;
import java.nio.file.Files;

/**
 * The boundary cases, sentence by sentence: each part below begins with a sentence of the document,
 * and tells its least and its greatest, what is just outside, what is empty, and what is full. Refused
 * calls are told in RefusedTest, too.
 */
public final class BoundaryTest {
    private static final int NONE = MakerLines.NONE;
    private static final String ARGUMENT = "java.lang.IllegalArgumentException";
    private static final String STATE = "java.lang.IllegalStateException";
    private static final String INDEX = "java.lang.IndexOutOfBoundsException";
    /** What the rules 0 to 3 tell on the board of makerByRules. */
    private static final int[] MAKER_BY_RULES = {0, 3, 2, 5};
    /** What the rules 0 to 3 tell on the board of breakerByRules. */
    private static final int[] BREAKER_BY_RULES = {0, 5, 4, 2};
    private static final File DOCUMENT = new File("../shared/DOC.md");

    private static int checks = 0;
    private static int wrong = 0;
    private static String document = "";
    /** The sentence that is checked now. */
    private static String sentence = "";

    private interface Call {
        double answer();
    }

    public static void main(String[] args) throws IOException {
        document = DOCUMENT.exists() ? Files.readString(DOCUMENT.toPath()) : "";
        boards();
        lines();
        deadAndFull();
        turns();
        weights();
        dangers();
        threats();
        forcedReplies();
        pairings();
        pairingsHold();
        pairingsInOrder();
        whoWins();
        lengths();
        otherLines();
        bestMoves();
        simpleRules();
        ruleTwo();
        inputText();
        snapshots();
        savedStates();
        undoableCalls();
        exceptions();
        promise1();
        promise2();
        promise3();
        promise4();
        promise5();
        promise6();
        promise7();
        promise8();
        promise9();
        promise10();
        promise11();
        promise12();
        promise13();
        promise14();
        promise15();
        promise16();
        promise17();
        promise18();
        promise19();
        promise20();
        promise21();
        promise22();
        promise23();
        promise24();
        promise24OfGames();
        manyCalls();
        System.out.println(checks + " checks, " + wrong + " wrong");
        if (wrong != 0) {
            System.exit(1);
        }
    }

    // ---- Terms: boards and lines

    private static void boards() {
        says("A board has 2 to 10 cells, at first 9, numbered from 0");
        MakerLines x = new MakerLines();
        due("cells at first", x.count(0), 9);
        due("the least number", x.cell(0, 0), 0);
        due("the greatest number", x.cell(8, 0), 0);
        throwsBy("cell 9 of 9", x, INDEX, () -> x.cell(9, 0));
        throwsBy("cell -1", x, INDEX, () -> x.cell(-1, 0));
        MakerLines two = board(2);
        due("2 cells: the greatest number", two.cell(1, 0), 0);
        throwsBy("cell 2 of 2", two, INDEX, () -> two.cell(2, 0));
        MakerLines ten = board(10);
        due("10 cells: the greatest number", ten.cell(9, 0), 0);
        throwsBy("cell 10 of 10", ten, INDEX, () -> ten.cell(10, 0));

        says("each is free (0), the maker's (1) or the breaker's (2)");
        MakerLines y = board(10, "45", "67");
        moves(y, 0, 9);
        due("the lowest cell", y.cell(0, 0), 1);
        due("the greatest cell", y.cell(9, 0), 2);
        for (int cell = 1; cell < 9; cell++) {
            due("a cell between", y.cell(cell, 0), 0);
        }
    }

    private static void lines() {
        says("There are at most 12 lines, numbered from 0");
        MakerLines x = board(4);
        throwsBy("line 0 of none", x, INDEX, () -> x.line(0, 0));
        for (int line = 0; line < 12; line++) {
            due("addLine", x.addLine(line + 1), line);
        }
        due("lines", x.count(1), 12);
        due("the first one", x.line(0, 0), 1);
        due("the last one", x.line(11, 0), 12);
        throwsBy("line 12", x, INDEX, () -> x.line(12, 0));
        throwsBy("the thirteenth", x, STATE, () -> x.addLine(1));

        says("a line is a set of one or more cells, told as a mask (with the bit k for the cell k)");
        MakerLines y = board(10);
        for (int cell = 0; cell < 10; cell++) {
            y.addLine(1 << cell);
            due("one cell: its mask", y.line(cell, 0), 1 << cell);
            for (int other = 0; other < 10; other++) {
                due("one cell: who is in a line", y.cell(other, 3), other <= cell ? 1 : 0);
            }
        }
        due("all cells", y.addLine(1023), 10);
        due("all cells: free", y.line(10, 2), 10);

        says("if one is taken away, those behind it have numbers that are less by 1");
        for (int gone = 0; gone < 12; gone++) {
            MakerLines z = board(4, "0", "1", "01", "2", "02", "12", "012", "3", "03", "13", "013", "23");
            due("removeLine", z.removeLine(gone), gone + 1);
            due("lines", z.count(1), 11);
            for (int line = 0; line < 11; line++) {
                due("line " + line + " without " + gone, z.line(line, 0), line < gone ? line + 1 : line + 2);
            }
            throwsBy("the number that is free", z, INDEX, () -> z.line(11, 0));
        }

        says("Two lines can be the same.");
        MakerLines same = board(2, "1", "1", "1", "1", "1", "1", "1", "1", "1", "1", "1", "1");
        counts(same, 2, 12, 12, 6144, 1, 0, 2, 1, NONE, 3);
        due("one of them is taken away", same.removeLine(0), 2);
        counts(same, 2, 11, 11, 5632, 1, 0, 2, 1, NONE, 3);
    }

    private static void deadAndFull() {
        says("A line is dead if a cell of it is the breaker's.");
        MakerLines x = board(10, "0123456789", "01234567", "8", "9");
        x.skip();
        x.move(9);
        due("one of ten cells", x.line(0, 1), 1);
        due("none of its cells", x.line(1, 1), 0);
        due("none of its one cell", x.line(2, 1), 0);
        due("its one cell", x.line(3, 1), 1);
        moves(x, 1, 0);
        due("the lowest cell, with one of the maker's", x.line(1, 1), 1);

        says("It is full if all cells of it are the maker's; then the maker has won.");
        MakerLines y = board(4, "012", "3");
        moves(y, 0, 3, 1);
        due("all but one", y.count(5), 0);
        y.skip();
        due("all, and the other line is dead", y.move(2), 1);
        due("who has won", y.count(5), 1);
        due("of one cell", board(2, "1").move(1), 1);
        MakerLines all = board(2, "01");
        all.move(0);
        all.skip();
        due("all cells of the board", all.move(1), 1);
        due("no free cells", all.count(9), 0);
        MakerLines mixed = board(3, "01", "12");
        mixed.move(1);
        mixed.move(0);
        due("one dead, one full", mixed.move(2), 1);

        says("The breaker has won if all lines are dead (also if there are none).");
        MakerLines z = board(4, "01", "12", "3");
        z.clear(false);
        due("one of three lives", z.move(1), 0);
        z.skip();
        due("none lives", z.move(3), 2);
        due("who has won", z.count(5), 2);
        due("no lines", new MakerLines().count(5), 2);
        MakerLines gone = board(4, "01");
        due("one line", gone.count(5), 0);
        gone.removeLine(0);
        due("the one line is gone", gone.count(5), 2);
        MakerLines alive = board(4, "01", "23");
        alive.clear(false);
        alive.move(0);
        alive.removeLine(1);
        due("the one line that lived is gone", alive.count(5), 2);
    }

    private static void turns() {
        says("Otherwise the game is open; then it is the turn of one of both, the mover");
        MakerLines x = board(4, "01", "23");
        due("open", x.count(5), 0);
        due("the mover", x.count(4), 1);
        x.clear(false);
        due("the mover", x.count(4), 2);
        moves(x, 0);
        due("the mover", x.count(4), 1);
        x.skip();
        moves(x, 2);
        due("not open: no mover", x.count(4), 0);

        says("they take turns (by each move, also by one that ends the game)");
        MakerLines y = board(4, "0", "12");
        y.move(0);
        y.removeLine(0);
        due("behind the maker's last move", y.count(4), 2);
        MakerLines z = board(4, "01");
        z.clear(false);
        z.move(0);
        z.addLine(8);
        due("behind the breaker's last move", z.count(4), 1);
        due("rule 2: it is the latest move", z.count(13), 0);
    }

    // ---- Terms: weights

    private static void weights() {
        says("The weight of a line is 0 if it is dead, otherwise 1024 shifted right by how many free cells it has.");
        MakerLines x = board(10, "0123456789");
        for (int free = 10; free > 1; free--) {
            due("the weight by " + free, x.line(0, 3), 1024 >> free);
            x.move(10 - free);
            x.skip();
        }
        due("the weight by 1", x.line(0, 3), 512);
        x.move(9);
        due("the weight by 0", x.line(0, 3), 1024);
        MakerLines y = board(3, "0", "01", "012");
        y.clear(false);
        y.move(0);
        due("dead, no free cells", y.line(0, 3), 0);
        due("dead, 1 free cell", y.line(1, 3), 0);
        due("dead, 2 free cells", y.line(2, 3), 0);

        says("The weight of the board is the sum of the weights of its lines.");
        due("no lines", new MakerLines().count(3), 0);
        due("the least one that is not 0", board(10, "0123456789").count(3), 1);
        due("all lines are dead", y.count(3), 0);
        due("the greatest one", greatestWeight().count(3), 12288);
        due("of each size", eachSize().count(3), 1023);

        says("(If the breaker is the mover, and the weight is less than 1024, the breaker can hold the board.)");
        MakerLines less = eachSize();
        due("the maker is the mover", less.solved(0), 1);
        less.skip();
        solved(less, 2, 10);
        MakerLines just = board(10, "0", "1");
        just.skip();
        due("1024", just.count(3), 1024);
        solved(just, 1, 2);
        MakerLines held = board(10, "0", "0");
        held.skip();
        due("1024", held.count(3), 1024);
        solved(held, 2, 10);
    }

    /** A line of each size from 1 to 10: its weight is 1023. */
    private static MakerLines eachSize() {
        return board(10, "0", "12", "345", "6789", "01234", "456789", "0123456", "23456789", "012345678",
            "0123456789");
    }

    private static MakerLines greatestWeight() {
        MakerLines x = board(2, "0", "0", "0", "0", "0", "0", "0", "0", "0", "0", "0", "0");
        x.move(0);
        return x;
    }

    private static void dangers() {
        says("The danger of a free cell is the sum of the weights of the lines in which it is");
        MakerLines x = board(10, "0123456789", "12", "2", "2", "34", "345");
        int[] at = {1, 257, 1281, 385, 385, 129, 1, 1, 1, 1};
        for (int cell = 0; cell < 10; cell++) {
            due("danger of " + cell, x.cell(cell, 1), at[cell]);
        }
        due("the greatest one", board(2, "0", "0", "0", "0", "0", "0", "0", "0", "0", "0", "0", "0").cell(0, 1),
            6144);
        due("in no line", board(3, "01").cell(2, 1), 0);
        MakerLines y = board(4, "01", "12", "13");
        moves(y, 1, 0);
        due("dead lines have no weight", y.cell(2, 1), 512);
        MakerLines dead = board(4, "01", "23");
        dead.clear(false);
        dead.move(0);
        due("in dead lines alone", dead.cell(1, 1), 0);

        says("it is 0 for other cells");
        due("the maker's", y.cell(1, 1), 0);
        due("the breaker's", y.cell(0, 1), 0);
        due("the maker's, in full lines", greatestWeight().cell(0, 1), 0);
    }

    // ---- Terms: forced replies

    private static void threats() {
        says("A cell is a threat if it is free, and the only free cell of a line that is not dead.");
        due("no lines", new MakerLines().count(6), 0);
        due("of one cell", board(10, "9").count(6), 512);
        due("of one cell", board(10, "0").count(6), 1);
        due("two free cells", board(10, "01").count(6), 0);
        MakerLines x = board(5, "01", "23", "24", "012");
        moves(x, 2);
        due("the only free ones of two lines", x.count(6), 24);
        moves(x, 3);
        due("of a line that is dead", x.count(6), 16);
        moves(x, 0);
        due("with the maker's of other lines", x.count(6), 18);
        moves(x, 4);
        due("a cell of two lines is one threat", x.count(6), 2);
        MakerLines all = board(10, "0", "1", "2", "3", "4", "5", "6", "7", "8", "9");
        due("all cells", all.count(6), 1023);
        all.move(4);
        due("full lines have none", all.count(6), 1007);
    }

    private static void forcedReplies() {
        says("If the maker is the mover, and there is a threat, the forced reply is the lowest threat.");
        due("the only one", board(10, "9", "01").count(7), 9);
        due("the lowest one", board(10, "9", "8", "3").count(7), 3);
        due("the lowest one", board(10, "0", "1").count(7), 0);

        says("If the breaker is the mover, and there is a threat, it is that, too.");
        MakerLines x = board(10, "9", "8");
        x.skip();
        due("the breaker's", x.count(7), 8);
        moves(x, 8);
        due("the maker's", x.count(7), 9);

        says("Otherwise there is no forced reply.");
        MakerLines y = board(10, "01", "234");
        due("no threat, the maker", y.count(7), NONE);
        y.skip();
        due("no threat, the breaker", y.count(7), NONE);
        due("no lines", new MakerLines().count(7), NONE);
        MakerLines won = board(3, "0", "1");
        moves(won, 0);
        due("a threat is left", won.count(6), 2);
        due("not open", won.count(7), NONE);
    }

    // ---- Terms: pairings

    private static void pairings() {
        says("A pairing is a set of pairs of free cells, no cell in two of them, so that each line that is not dead has both cells of some pair.");
        pairs(board(10, "01", "23", "45", "67", "89"), 5, 1, 0, 3, 2, 5, 4, 7, 6, 9, 8);
        pairs(board(2, "01"), 1, 1, 0);
        pairs(board(3, "01", "12"), NONE, NONE, NONE, NONE);
        pairs(board(2, "0"), NONE, NONE, NONE);
        MakerLines free = board(4, "0123");
        moves(free, 0);
        pairs(free, 1, NONE, 2, 1, NONE);
        free.skip();
        moves(free, 1);
        pairs(free, 1, NONE, NONE, 3, 2);
        free.skip();
        moves(free, 2);
        pairs(free, NONE, NONE, NONE, NONE, NONE);
        MakerLines full = board(4, "0", "12");
        full.move(0);
        pairs(full, NONE, NONE, NONE, NONE, NONE);
        MakerLines twelve = board(4, "01", "01", "01", "012", "013", "0123", "01", "01", "01", "01", "01", "01");
        pairs(twelve, 1, 1, 0, NONE, NONE);
        MakerLines last = board(4, "01", "01", "01", "012", "013", "0123", "01", "01", "01", "01", "01", "02");
        pairs(last, NONE, NONE, NONE, NONE, NONE);

        says("a line that is dead, or has both cells of a pair so far, needs none");
        MakerLines dead = board(6, "01", "02", "45");
        dead.clear(false);
        moves(dead, 1);
        pairs(dead, 2, 2, NONE, 0, NONE, 5, 4);
        dead.skip();
        moves(dead, 0);
        pairs(dead, 1, NONE, NONE, NONE, NONE, 5, 4);
        dead.skip();
        moves(dead, 4);
        pairs(dead, 0, NONE, NONE, NONE, NONE, NONE, NONE);
        pairs(new MakerLines(), 0, NONE, NONE, NONE, NONE, NONE, NONE, NONE, NONE, NONE);
        pairs(board(4, "23", "0123"), 1, NONE, NONE, 3, 2);
        pairs(board(4, "0123", "23"), 2, 1, 0, 3, 2);
    }

    private static void pairingsHold() {
        says("(Then the breaker, whoever is the mover, can hold the board, by the other cell of each pair.)");
        MakerLines five = board(10, "01", "23", "45", "67", "89");
        due("five pairs", five.count(8), 5);
        solved(five, 2, 10);
        due("by pairs, against the lowest cells", five.ifPlayed(0, 2), 2);
        due("by pairs, against the best moves", five.ifPlayed(3, 2), 2);
        five.skip();
        solved(five, 2, 10);
        due("by pairs, the breaker first", five.ifPlayed(0, 2), 2);
        MakerLines none = board(3, "01", "02");
        due("no pairing", none.count(8), NONE);
        solved(none, 1, 3);
    }

    private static void pairingsInOrder() {
        says("Pairings are looked for line by line, by ascending numbers");
        pairs(board(4, "23", "0123", "01"), 2, 1, 0, 3, 2);
        pairs(board(5, "012", "1234"), 2, 1, 0, 3, 2, NONE);
        pairs(board(5, "1234", "012"), 1, NONE, 2, 1, NONE, NONE);

        says("are tried, by ascending lower cells, then by ascending greater cells");
        pairs(board(10, "0123456789"), 1, 1, 0, NONE, NONE, NONE, NONE, NONE, NONE, NONE, NONE);
        pairs(board(10, "01", "0123456789", "89"), 2, 1, 0, NONE, NONE, NONE, NONE, NONE, NONE, 9, 8);
        pairs(board(5, "01", "0234"), 2, 1, 0, 3, 2, NONE);
        pairs(board(4, "0123", "03"), 1, 3, NONE, NONE, 0);
        pairs(board(4, "0123", "12"), 2, 3, 2, 1, 0);
        pairs(board(5, "0123", "01", "234"), 2, 1, 0, 3, 2, NONE);

        says("The first pairing that is found by this, with all choices tried in this order, is the pairing of the board; there may be none.");
        pairs(board(4, "012", "03"), 2, 3, 2, 1, 0);
        pairs(board(6, "0123", "024", "135", "45"), 3, 2, 3, 0, 1, 5, 4);
        pairs(board(10, "0123456789", "01", "23", "45", "67", "89"), 5, 1, 0, 3, 2, 5, 4, 7, 6, 9, 8);
        pairs(board(10, "0123456789", "12", "34", "56", "78"), 5, 9, 2, 1, 4, 3, 6, 5, 8, 7, 0);
        pairs(board(10, "0123456789", "12", "34", "56", "78", "08"), NONE, NONE, NONE);
    }

    // ---- Terms: solved boards

    private static void whoWins() {
        says("Of an open game, the maker wins by best play if, whatever the breaker does, the maker can get a full line; otherwise the breaker wins by best play.");
        MakerLines held = board(4, "01", "23");
        due("each line is held", held.solved(0), 2);
        held.addLine(mask("02"));
        due("one line more", held.solved(0), 1);
        held.skip();
        due("one line more, the breaker begins", held.solved(0), 2);
        MakerLines one = board(2, "01");
        due("two free cells", one.solved(0), 2);
        one.move(0);
        due("one free cell, the breaker's turn", one.solved(0), 2);
        one.skip();
        due("one free cell, the maker's turn", one.solved(0), 1);
    }

    private static void lengths() {
        says("The length of it, if the maker wins, is the least number of moves (of both, counted from now) in which the maker can win, whatever the breaker does");
        solved(board(2, "0"), 1, 1);
        solved(board(10, "01", "12", "9"), 1, 1);
        MakerLines two = board(2, "0", "1");
        two.skip();
        solved(two, 1, 2);
        solved(board(3, "01", "02"), 1, 3);
        MakerLines later = board(5, "12", "13", "4");
        later.skip();
        solved(later, 1, 4);
        later.move(4);
        solved(later, 1, 3);
        later.move(1);
        solved(later, 1, 2);
        later.move(0);
        solved(later, 1, 1);
        solved(board(9, "012", "345", "678", "036", "147", "258", "048", "246"), 1, 7);
        solved(board(10, "1269", "679", "34567", "068", "0468", "148", "348", "1368", "45689", "34", "3679"), 1, 9);
        MakerLines longest = board(10, "569", "26", "057", "78", "02", "346", "1357", "127");
        longest.skip();
        solved(longest, 1, 10);

        says("if the breaker wins, it is the number of free cells");
        solved(board(10, "0123456789"), 2, 10);
        solved(board(2, "01"), 2, 2);
        MakerLines one = board(2, "01");
        one.move(0);
        solved(one, 2, 1);
        MakerLines dead = board(6, "01", "23", "45");
        moves(dead, 0, 1);
        solved(dead, 2, 4);
    }

    /** What was looked at before does not stay if the board changes, but not how many lines there are. */
    private static void otherLines() {
        says("if one is taken away, those behind it have numbers that are less by 1");
        MakerLines x = board(4, "01", "02");
        pairs(x, NONE, NONE, NONE, NONE, NONE);
        solved(x, 1, 3);
        due("the best move", x.reply(3), 0);
        x.removeLine(1);
        add(x, "23");
        pairs(x, 2, 1, 0, 3, 2);
        solved(x, 2, 4);
        x.removeLine(0);
        add(x, "13");
        pairs(x, NONE, NONE, NONE, NONE, NONE);
        solved(x, 1, 3);
        due("the best move", x.reply(3), 3);
        x.skip();
        solved(x, 2, 4);
        x.skip();
        solved(x, 1, 3);
        x.undo();
        solved(x, 2, 4);
        x.begin(10);
        add(x, "23", "13");
        solved(x, 1, 3);
        x.skip();
        solved(x, 2, 10);
        MakerLines y = board(3, "01");
        solved(y, 2, 3);
        pairs(y, 1, 1, 0, NONE);
        y.take(0);
        y.begin(4);
        add(y, "01");
        solved(y, 2, 4);
        y.begin(4);
        add(y, "12");
        pairs(y, 1, NONE, 2, 1, NONE);
        y.restore(0);
        pairs(y, 1, 1, 0, NONE);
        solved(y, 2, 3);
    }

    private static void bestMoves() {
        says("The best move is, of the free cells, the lowest one behind which the mover wins by best play, with the shortest length if that is the maker");
        due("the greatest cell", board(10, "9").reply(3), 9);
        due("shorter, but not the lowest one", board(5, "01", "02", "4").reply(3), 4);
        due("the lowest one of the shortest", board(5, "12", "13", "23").reply(3), 1);
        due("the lowest one of those that win at once", board(5, "4", "3").reply(3), 3);
        MakerLines breaker = board(5, "12", "13");
        breaker.skip();
        due("the one that holds", breaker.reply(3), 1);
        MakerLines any = board(10, "0123456789");
        any.skip();
        due("each one holds", any.reply(3), 0);
        MakerLines some = board(5, "012", "034");
        some.clear(true);
        some.move(0);
        due("one of several that hold", some.reply(3), 1);

        says("if the mover loses by best play, it is for the breaker the lowest one behind which the length is greatest, and for the maker the lowest free cell");
        MakerLines late = board(5, "12", "13", "4");
        late.skip();
        due("the latest loss", late.reply(3), 4);
        MakerLines same = board(5, "3", "4");
        same.skip();
        due("losses that are equal", same.reply(3), 0);
        MakerLines lose = board(10, "01", "9876");
        due("the maker loses", lose.reply(3), 0);
        moves(lose, 0, 1);
        due("the maker loses, a cell is taken", lose.reply(3), 2);
    }

    // ---- Terms: rules

    private static void simpleRules() {
        says("0: the lowest free cell.");
        MakerLines x = board(10, "9");
        for (int cell = 0; cell < 9; cell++) {
            due("the lowest one", x.reply(0), cell);
            x.move(cell);
        }
        due("the only one", x.reply(0), 9);
        MakerLines gap = board(10, "89");
        moves(gap, 0, 2, 1);
        due("behind those that are taken", gap.reply(0), 3);

        says("1: the forced reply, if there is one; otherwise the free cell with the greatest danger, of several the lowest one.");
        MakerLines forced = board(5, "0", "12", "13", "14");
        due("more danger elsewhere", forced.cell(1, 1), 768);
        due("forced", forced.reply(1), 0);
        forced.skip();
        due("forced, the breaker", forced.reply(1), 0);
        due("the lowest of two", board(10, "0123456789", "89").reply(1), 8);
        due("the last cell", board(10, "0123456789", "19", "29").reply(1), 9);
        due("all are equal", board(10, "0123456789").reply(1), 0);
        MakerLines taken = board(5, "012", "034");
        taken.move(0);
        due("of free cells alone", taken.reply(1), 1);
        due("cells in no line have none", board(10, "9876").reply(1), 6);

        says("3: the best move.");
        MakerLines best = board(6, "01", "01", "01", "34", "35");
        due("by rule 0", best.reply(0), 0);
        due("by rule 1", best.reply(1), 0);
        due("by rule 3", best.reply(3), 3);
    }

    private static void ruleTwo() {
        says("2: if the other one has moved last, and the cell of this move is in a pair of the pairing that the board, with its lines as they were then, had ahead of that move, the other cell of this pair; otherwise as by rule 1.");
        MakerLines x = board(8, "0123", "4567", "567");
        due("no move", x.reply(2), 5);
        x.move(1);
        due("the lower one of a pair", x.reply(2), 0);
        x.undo();
        x.move(0);
        due("the greater one of a pair", x.reply(2), 1);
        x.undo();
        x.move(2);
        due("in no pair", x.reply(2), 5);
        x.undo();
        x.move(0);
        x.addLine(mask("7"));
        due("rule 1 goes to the threat", x.reply(1), 7);
        due("the pair goes ahead of threats", x.reply(2), 1);
        x.removeLine(0);
        due("the line of the pair is gone", x.reply(2), 1);
        x.move(6);
        due("there was no pairing ahead of the breaker's move", x.reply(2), 7);
        MakerLines maker = board(8, "0123", "567");
        maker.clear(false);
        maker.move(0);
        due("for the maker", maker.reply(2), 1);
        due("for the maker, by rule 1", maker.reply(1), 5);

        MakerLines none = board(6, "123", "24", "25");
        none.move(1);
        none.removeLine(2);
        due("there was no pairing then", none.reply(2), 2);
        MakerLines then = board(6, "123", "24");
        then.move(1);
        then.addLine(mask("25"));
        due("there was one then, but is none now", then.reply(2), 3);
        due("rule 1 there", then.reply(1), 2);
        then.take(0);
        then.begin(10);
        then.restore(0);
        due("restored", then.reply(2), 3);
        then.clear(false);
        due("cleared", then.reply(2), 2);
        then.undo();
        due("undone", then.reply(2), 3);
        then.skip();
        due("skipped", then.reply(2), 2);
        then.skip();
        due("skipped twice", then.reply(2), 2);
    }

    // ---- Terms: input text

    private static void inputText() {
        says("The buffer has at most 60 characters.");
        MakerLines x = new MakerLines();
        for (int length = 1; length <= 60; length++) {
            due("append", x.append('a'), length);
        }
        throwsBy("append, 60 characters", x, STATE, () -> x.append('a'));
        due("its length", x.clearBuffer(), 60);
        due("append, cleared", x.append('a'), 1);

        says("A row of lines as a text is one or more lines with \";\" between them, each with one or more digits of cells, ascending (each one greater than the one before), below the number of cells.");
        String[] nine = {"0", "8", "01", "08", "78", "012345678", "0;0", "8;8", "8;0", "0;1;2;3;4;5;6;7;8;0;1;2"};
        for (String text : nine) {
            due("read of " + text, typed(9, text).read(), text.split(";").length);
        }
        String[] not = {"", ";", "0;", ";0", "0;;1", "00", "88", "10", "87", "9", "09", "012345677", "0123456789",
            "0:1", "0/", "0!", "0;1;", "0,1", "a", "-1"};
        for (String text : not) {
            MakerLines y = typed(9, text);
            throwsBy("read of " + text, y, ARGUMENT, () -> y.read());
        }
        due("the last of ten cells", typed(10, "0123456789;9").read(), 2);
        due("the last of two cells", typed(2, "01;1;0").read(), 3);
        MakerLines two = typed(2, "2");
        throwsBy("a third of two cells", two, ARGUMENT, () -> two.read());

        says("a character is a syntax error if no row of lines, of any length, begins with the characters before it and this character");
        due("just below 0, behind a \";\"", typed(9, "0;/").firstError(), 2);
        due("just above the greatest, behind a \";\"", typed(9, "0;9").firstError(), 2);
        due("more than 12 lines", typed(9, "0;1;2;3;4;5;6;7;8;0;1;2;3").firstError(), 25);
        due("a \";\" at the end of 60", typed(9, "01;12;23;34;45;56;67;78;01;12;23;34;45;56;67;78;01;12;23;34;").firstError(),
            60);
        due("a \";\" at the end", typed(9, "0;").firstError(), 2);
        due("the last digit can not be followed by one", typed(9, "88").firstError(), 1);
        due("the last digit can be followed by \";\"", typed(9, "8;").firstError(), 2);
        due("the first one of two", typed(9, "0;;;").firstError(), 2);
        due("what is right behind an error does not count", typed(9, "9012").firstError(), 0);
    }

    // ---- Terms: snapshots, undo

    private static void snapshots() {
        says("There are two snapshots, numbered 0 and 1, at first none.");
        MakerLines x = board(4, "01", "23");
        due("none at first", x.count(14), 0);
        throwsBy("restore(0)", x, STATE, () -> x.restore(0));
        throwsBy("restore(1)", x, STATE, () -> x.restore(1));
        x.take(1);
        due("number 1 alone", x.count(14), 1);
        throwsBy("restore(0)", x, STATE, () -> x.restore(0));
        x.take(1);
        due("number 1 again", x.count(14), 1);
        x.take(0);
        due("both", x.count(14), 2);
        throwsBy("take(2)", x, INDEX, () -> x.take(2));
        throwsBy("take(-1)", x, INDEX, () -> x.take(-1));

        says("Each keeps what a saved state keeps, but not what is counted so far.");
        MakerLines y = board(5, "01", "34");
        y.clear(false);
        moves(y, 4, 0);
        y.take(0);
        String board = look(y);
        due("moves, then", y.count(10), 2);
        y.move(1);
        due("games of the breaker, then", y.count(12), 1);
        y.begin(2);
        y.addLine(1);
        y.move(0);
        y.restore(0);
        same("cells, lines, whose they are, the mover, the latest move", look(y), board);
        counts(y, 5, 2, 1, 512, 2, 0, 2, 1, NONE, 14, 4, 1, 1, 0, 1, 6);
        y.undo();
        due("undone", y.count(0), 2);
        due("undone, won", y.count(5), 1);
    }

    private static void savedStates() {
        says("At most 6 states are saved; the oldest one is dropped first.");
        MakerLines x = board(2);
        for (int saved = 2; saved <= 9; saved++) {
            x.begin(saved + 1);
            due("saved", x.count(15), Math.min(saved, 6));
        }
        for (int left = 5; left >= 0; left--) {
            due("undo", x.undo(), left);
            due("the latest one first", x.count(0), left + 4);
        }
        throwsBy("undo, all are used", x, STATE, () -> x.undo());
        MakerLines y = board(2);
        for (int cells = 3; cells <= 7; cells++) {
            y.begin(cells);
        }
        due("six are saved", y.count(15), 6);
        for (int left = 5; left >= 0; left--) {
            due("undo of six", y.undo(), left);
        }
        due("none of six is dropped", y.count(0), 9);
        for (int round = 0; round < 3; round++) {
            y.begin(10);
            y.addLine(1);
            due("saved again", y.count(15), 2);
            y.undo();
            due("undone again", y.undo(), 0);
            due("cells again", y.count(0), 9);
        }
    }

    private static void undoableCalls() {
        says("Each method that is marked \"undoable\" and does not throw an exception saves the state from before it (also if it changes nothing): all, also what is counted so far, but the buffer, the snapshots and the saved states.");
        MakerLines same = new MakerLines();
        same.begin(9);
        due("begin, nothing changes", same.count(15), 1);
        same.clear(true);
        due("clear, nothing changes", same.count(15), 2);
        same.take(0);
        due("take saves nothing", same.count(15), 2);
        same.restore(0);
        due("restore, nothing changes", same.count(15), 3);
        type(same, "0");
        same.firstError();
        same.clearBuffer();
        looks(same);
        due("texts and looks save nothing", same.count(15), 3);

        for (int kind = 0; kind < 9; kind++) {
            MakerLines x = board(6, "01", "23", "0145", "45");
            moves(x, 2, 3, 4);
            x.take(0);
            moves(x, 5);
            type(x, "5");
            String before = look(x) + counted(x);
            undoable(x, kind);
            holds("call " + kind + " changes something", !before.equals(look(x) + counted(x)));
            x.take(1);
            x.clearBuffer();
            type(x, "0;");
            due("call " + kind + ", undone", x.undo(), 5);
            same("call " + kind + ", undone", look(x) + counted(x), before);
            due("call " + kind + ", undone: the snapshots stay", x.count(14), 2);
            due("call " + kind + ", undone: the buffer stays", x.clearBuffer(), 2);
        }
        MakerLines counted = board(2, "0", "1");
        counted.move(0);
        due("games of the maker", counted.count(11), 1);
        counted.undo();
        counts(counted, 2, 2, 2, 1024, 1, 0, 3, 0, NONE, 3, 0, 0, 0, NONE, 0, 3);
        counted.skip();
        counted.play(1, 1, 10);
        due("games of the maker", counted.count(11), 1);
        due("moves", counted.count(10), 2);
        counted.undo();
        due("games of the maker, undone", counted.count(11), 0);
        due("moves, undone as one", counted.count(10), 0);
    }

    /** Makes one of the calls that are undoable. */
    private static void undoable(MakerLines x, int kind) {
        switch (kind) {
            case 0: x.begin(6); break;
            case 1: x.addLine(63); break;
            case 2: x.removeLine(3); break;
            case 3: x.clear(true); break;
            case 4: x.move(1); break;
            case 5: x.skip(); break;
            case 6: x.play(0, 0, 10); break;
            case 7: x.restore(0); break;
            default: x.read(); break;
        }
    }

    // ---- Terms: exceptions

    private static void exceptions() {
        says("A call that throws an exception changes nothing.");
        MakerLines x = board(3, "0", "1", "2", "01", "02", "12");
        x.append('9');
        Call[] calls = {() -> x.begin(11), () -> x.addLine(8), () -> x.removeLine(6), () -> x.move(3),
            () -> x.play(4, 0, 1), () -> x.append(32), () -> x.read(), () -> x.take(2), () -> x.restore(2),
            () -> x.restore(1), () -> x.line(6, 0), () -> x.cell(3, 0), () -> x.reply(4), () -> x.solved(2),
            () -> x.ifMoved(3), () -> x.ifPlayed(4, 4), () -> x.count(16)};
        long before = x.digest();
        for (int i = 0; i < calls.length; i++) {
            holds("call " + i + " throws", !thrown(calls[i]).equals("nothing"));
        }
        due("the state", x.digest(), before);
        for (int left = 5; left >= 0; left--) {
            due("the saved states", x.undo(), left);
            due("their lines", x.count(1), left);
        }
        due("their cells", x.count(0), 3);

        says("If several exceptions apply, the one that is named first in the throws clause is thrown.");
        MakerLines full = board(2, "0", "0", "0", "0", "0", "0", "0", "0", "0", "0", "0", "0");
        throwsBy("addLine(0), 12 lines", full, ARGUMENT, () -> full.addLine(0));
        throwsBy("addLine(4), 12 lines", full, ARGUMENT, () -> full.addLine(4));
        throwsBy("read(), 12 lines, empty buffer", full, ARGUMENT, () -> full.read());
        throwsBy("line(12, 5)", full, INDEX, () -> full.line(12, 5));
        throwsBy("cell(2, 4)", full, INDEX, () -> full.cell(2, 4));
        throwsBy("restore(2), no snapshots", full, INDEX, () -> full.restore(2));
        full.move(0);
        throwsBy("move(2), not open", full, INDEX, () -> full.move(2));
        throwsBy("play(0, 0, 11), not open", full, ARGUMENT, () -> full.play(0, 0, 11));
        for (int i = 0; i < 60; i++) {
            full.append('0');
        }
        throwsBy("append(127), 60 characters", full, ARGUMENT, () -> full.append(127));
    }

    // ---- Promises: board, lines

    private static void promise1() {
        says("Creates a board with 9 free cells, without lines, the maker being the mover, with an empty buffer.");
        MakerLines x = new MakerLines();
        counts(x, 9, 0, 0, 0, 0, 2, 0, NONE, 0, 511, 0, 0, 0, NONE, 0, 0);
        due("digest", x.digest(), hash(x, ""));
        due("the buffer", x.clearBuffer(), 0);
        throwsBy("undo", x, STATE, () -> x.undo());
        x.addLine(511);
        due("the mover", x.count(4), 1);

        says("There is nothing to return.");
        due("NONE", NONE, -1);
    }

    private static void promise2() {
        says("Begins a board: free cells, no lines, the maker is the mover (what is counted so far stays). Undoable.");
        MakerLines x = board(2, "0", "1");
        x.move(1);
        x.clear(false);
        x.removeLine(1);
        x.move(0);
        due("begin", x.begin(2), 2);
        counts(x, 2, 0, 0, 0, 0, 2, 0, NONE, 0, 3, 2, 1, 1, NONE, 0, 6);
        x.addLine(2);
        due("the maker is the mover", x.count(4), 1);
        due("rule 2 knows of no move", x.reply(2), 1);
        x.undo();
        x.undo();
        due("undone", x.count(13), 0);

        says("Returns the previous number of cells.");
        MakerLines y = new MakerLines();
        due("of a new object", y.begin(2), 9);
        for (int cells = 2; cells <= 10; cells++) {
            due("the next one", y.begin(cells), Math.max(2, cells - 1));
            due("cells", y.count(0), cells);
            due("free cells", y.count(9), (1 << cells) - 1);
        }
        due("the greatest one", y.begin(10), 10);

        says("Throws `IllegalArgumentException` if cells is out of range");
        throwsBy("begin(1)", y, ARGUMENT, () -> y.begin(1));
        throwsBy("begin(11)", y, ARGUMENT, () -> y.begin(11));
    }

    private static void promise3() {
        says("Returns its number.");
        MakerLines x = board(10);
        due("the first one", x.addLine(1), 0);
        due("the second one", x.addLine(1), 1);
        x.removeLine(0);
        due("behind one that was taken away", x.addLine(1), 1);

        says("Throws `IllegalArgumentException` if mask is 0, or has cells that there are not");
        for (int cells = 2; cells <= 10; cells++) {
            MakerLines y = board(cells);
            int above = 1 << cells;
            throwsBy("addLine(0)", y, ARGUMENT, () -> y.addLine(0));
            throwsBy("the cell that there is not", y, ARGUMENT, () -> y.addLine(above));
            throwsBy("with cells that there are", y, ARGUMENT, () -> y.addLine(2 * above - 1));
            throwsBy("all bits", y, ARGUMENT, () -> y.addLine(-1));
            throwsBy("the highest bit", y, ARGUMENT, () -> y.addLine(Integer.MIN_VALUE));
            throwsBy("the highest bit, and cell 0", y, ARGUMENT, () -> y.addLine(Integer.MIN_VALUE + 1));
            due("the last cell", y.addLine(above >> 1), 0);
            due("all cells", y.addLine(above - 1), 1);
            due("the first cell", y.addLine(1), 2);
        }

        says("Throws `IllegalStateException` if there are 12 lines");
        MakerLines z = board(2);
        for (int line = 0; line < 12; line++) {
            due("addLine", z.addLine(3), line);
        }
        throwsBy("the thirteenth", z, STATE, () -> z.addLine(3));
        z.removeLine(11);
        due("one was taken away", z.addLine(2), 11);
        throwsBy("the thirteenth again", z, STATE, () -> z.addLine(3));
        z.undo();
        due("one was undone", z.addLine(1), 11);
    }

    private static void promise4() {
        says("Takes a line away. Undoable.");
        MakerLines w = board(2, "0", "1");
        w.removeLine(1);
        due("lines", w.count(1), 1);
        due("saved", w.count(15), 4);
        w.removeLine(0);
        due("none", w.count(1), 0);
        w.undo();
        w.undo();
        due("undone", w.count(1), 2);
        due("undone: the last one", w.line(1, 0), 2);

        says("Returns its mask.");
        MakerLines x = board(10, "0123456789", "9", "0");
        due("the last one", x.removeLine(2), 1);
        due("the first one", x.removeLine(0), 1023);
        due("the only one", x.removeLine(0), 512);
        due("none is left", x.count(1), 0);

        says("Throws `IndexOutOfBoundsException` if there is no such line");
        throwsBy("no lines", x, INDEX, () -> x.removeLine(0));
        throwsBy("-1", x, INDEX, () -> x.removeLine(-1));
        x.undo();
        throwsBy("1 of one", x, INDEX, () -> x.removeLine(1));
        due("0 of one", x.removeLine(0), 512);

        says("games that were won by the maker so far (by a move that ended them)");
        MakerLines y = board(3, "0", "12");
        y.clear(false);
        y.move(1);
        y.removeLine(0);
        due("the breaker wins by no move", y.count(5), 2);
        due("it is not counted", y.count(12), 0);
    }

    private static void promise5() {
        says("Frees all cells, and tells who begins. Undoable.");
        MakerLines w = board(10, "01", "9");
        moves(w, 0, 8);
        w.clear(true);
        due("free cells", w.count(9), 1023);
        due("the latest move", w.count(13), NONE);
        due("saved", w.count(15), 6);
        w.undo();
        due("undone: free cells", w.count(9), 766);
        due("undone: the latest move", w.count(13), 8);

        says("Returns how many cells were not free.");
        MakerLines x = board(10, "9", "01");
        due("none", x.clear(true), 0);
        moves(x, 0);
        due("one", x.clear(true), 1);
        moves(x, 0, 1, 2, 3, 4, 5, 6, 7, 8, 9);
        due("all", x.clear(true), 10);
        due("all are free", x.count(9), 1023);
        due("the lines stay", x.count(1), 2);
        due("the moves so far stay", x.count(10), 11);

        says("whether the maker is the mover then, otherwise the breaker");
        x.clear(false);
        due("the breaker", x.count(4), 2);
        x.clear(false);
        due("the breaker again", x.count(4), 2);
        x.clear(true);
        due("the maker", x.count(4), 1);
        MakerLines none = new MakerLines();
        due("no lines", none.clear(false), 0);
        none.addLine(1);
        due("no lines, told for later", none.count(4), 2);
    }

    // ---- Promises: moves

    private static void promise6() {
        says("Returns 0 if the game is open then, 1 if the maker has won, 2 if the breaker has.");
        MakerLines x = board(10, "0", "19", "9");
        due("open", x.move(8), 0);
        due("open, a line is dead", x.move(0), 0);
        due("a line is full", x.move(9), 1);
        x.undo();
        x.skip();
        due("all lines are dead", x.move(9), 2);

        says("Throws `IndexOutOfBoundsException` if there is no such cell");
        for (int cells = 2; cells <= 10; cells++) {
            MakerLines y = board(cells, "01");
            int above = cells;
            throwsBy("move(-1)", y, INDEX, () -> y.move(-1));
            throwsBy("move(cells)", y, INDEX, () -> y.move(above));
            throwsBy("move(32)", y, INDEX, () -> y.move(32));
            throwsBy("move(-32)", y, INDEX, () -> y.move(-32));
            due("the last cell", y.move(cells - 1), 0);
        }

        says("Throws `IllegalStateException` if the game is not open, or the cell is not free");
        MakerLines z = board(4, "0123", "0");
        moves(z, 3, 2);
        throwsBy("the maker's", z, STATE, () -> z.move(3));
        throwsBy("the breaker's", z, STATE, () -> z.move(2));
        z.move(0);
        throwsBy("free, but the maker has won", z, STATE, () -> z.move(1));
        MakerLines over = board(4, "0");
        over.clear(false);
        over.move(0);
        throwsBy("free, but the breaker has won", over, STATE, () -> over.move(1));
        MakerLines empty = new MakerLines();
        throwsBy("no lines", empty, STATE, () -> empty.move(0));

        says("The mover takes a cell. Undoable.");
        MakerLines w = board(4, "01");
        w.move(0);
        due("the maker's", w.cell(0, 0), 1);
        w.move(3);
        due("the breaker's", w.cell(3, 0), 2);
        w.undo();
        due("undone", w.cell(3, 0), 0);
        due("undone: the mover", w.count(4), 2);
    }

    private static void promise7() {
        says("Returns the mover then, 1 the maker, 2 the breaker.");
        MakerLines x = board(2, "01");
        due("the breaker", x.skip(), 2);
        due("the maker", x.skip(), 1);
        x.move(0);
        due("the maker with the last free cell", x.skip(), 1);
        due("the breaker with the last free cell", x.skip(), 2);
        due("moves", x.count(10), 1);

        says("no move is the latest one then, so rule 2 tells what rule 1 does");
        MakerLines y = board(6, "0123", "45");
        y.move(0);
        due("the latest one", y.count(13), 0);
        due("rule 2", y.reply(2), 1);
        y.skip();
        due("none is the latest one", y.count(13), NONE);
        due("rule 2, skipped", y.reply(2), 4);
        y.skip();
        due("rule 2, skipped twice", y.reply(2), 4);
        y.undo();
        y.undo();
        due("undone: the latest one", y.count(13), 0);
        due("undone: rule 2", y.reply(2), 1);

        says("Throws `IllegalStateException` if the game is not open");
        MakerLines empty = new MakerLines();
        throwsBy("no lines", empty, STATE, () -> empty.skip());
        MakerLines maker = board(2, "0");
        maker.move(0);
        throwsBy("the maker has won", maker, STATE, () -> maker.skip());
        MakerLines breaker = board(2, "0");
        moves(breaker, 1, 0);
        throwsBy("the breaker has won", breaker, STATE, () -> breaker.skip());
    }

    private static void promise8() {
        says("at most so many moves of both together, 1 to 10");
        for (int moves = 1; moves <= 10; moves++) {
            MakerLines x = board(10, "9");
            due("play", x.play(0, 0, moves), moves);
            due("moves so far", x.count(10), moves);
            due("saved as one", x.count(15), 3);
            due("undone as one", x.undo(), 2);
            due("all are free", x.count(9), 1023);
        }
        MakerLines y = board(10, "9");
        throwsBy("0 moves", y, ARGUMENT, () -> y.play(0, 0, 0));
        throwsBy("11 moves", y, ARGUMENT, () -> y.play(0, 0, 11));

        says("Lets the game go on by rules, until it is not open. Undoable, as one call.");
        MakerLines one = board(2, "0");
        due("won at once by the maker", one.play(0, 0, 10), 1);
        due("who has won", one.count(5), 1);
        MakerLines two = board(2, "0");
        two.skip();
        due("won at once by the breaker", two.play(0, 0, 10), 1);
        due("who has won", two.count(5), 2);
        MakerLines last = board(10, "9");
        due("to the last cell", last.play(0, 0, 10), 10);
        due("who has won", last.count(5), 2);
        due("games of the breaker", last.count(12), 1);

        says("Returns how many moves are made.");
        due("one of one", board(10, "9").play(3, 3, 1), 1);
        due("one of two", board(10, "9").play(3, 3, 2), 1);
        due("two of two", board(10, "8").play(0, 0, 2), 2);
        due("nine of ten", board(10, "8").play(0, 0, 10), 9);

        says("the rule by which the maker moves, 0 to 3");
        for (int rule = 0; rule < 4; rule++) {
            MakerLines maker = makerByRules();
            due("play", maker.play(rule, (rule + 1) % 4, 1), 1);
            due("the maker's rule " + rule, maker.count(13), MAKER_BY_RULES[rule]);
        }

        says("the rule by which the breaker moves, 0 to 3");
        for (int rule = 0; rule < 4; rule++) {
            MakerLines breaker = breakerByRules();
            due("play", breaker.play((rule + 1) % 4, rule, 1), 1);
            due("the breaker's rule " + rule, breaker.count(13), BREAKER_BY_RULES[rule]);
        }

        says("Throws `IllegalArgumentException` if an argument is out of range");
        throwsBy("maker -1", y, ARGUMENT, () -> y.play(-1, 0, 1));
        throwsBy("maker 4", y, ARGUMENT, () -> y.play(4, 0, 1));
        throwsBy("breaker -1", y, ARGUMENT, () -> y.play(0, -1, 1));
        throwsBy("breaker 4", y, ARGUMENT, () -> y.play(0, 4, 1));

        says("Throws `IllegalStateException` if the game is not open");
        MakerLines empty = new MakerLines();
        throwsBy("no lines", empty, STATE, () -> empty.play(0, 0, 1));
        throwsBy("the maker has won", one, STATE, () -> one.play(3, 3, 10));
        throwsBy("the breaker has won", two, STATE, () -> two.play(3, 3, 10));
    }

    /** Each rule tells the maker another cell: the pair of 1 and 2, the danger of 3, the two threats of 5. */
    private static MakerLines makerByRules() {
        MakerLines x = board(8, "12", "34");
        x.clear(false);
        x.move(1);
        add(x, "34", "34", "56", "57");
        return x;
    }

    /** Each rule tells the breaker another cell: the danger of 5, the pair of 4 and 6, and 2 is the lowest that holds. */
    private static MakerLines breakerByRules() {
        MakerLines x = board(8, "25", "456");
        x.move(6);
        return x;
    }

    // ---- Promises: texts, snapshots

    private static void promise9() {
        says("the character code, 33 to 126");
        MakerLines x = new MakerLines();
        throwsBy("append(32)", x, ARGUMENT, () -> x.append(32));
        throwsBy("append(127)", x, ARGUMENT, () -> x.append(127));
        for (int code = 33; code <= 92; code++) {
            due("append(" + code + ")", x.append(code), code - 32);
        }
        x.clearBuffer();
        for (int code = 93; code <= 126; code++) {
            due("append(" + code + ")", x.append(code), code - 92);
        }

        says("Throws `IllegalArgumentException` if code is not 33 to 126");
        for (int bad : new int[] {0, -1, 31, 128, 255, 33 + 256, 33 + 65536, Integer.MIN_VALUE, Integer.MAX_VALUE}) {
            throwsBy("append(" + bad + ")", x, ARGUMENT, () -> x.append(bad));
        }

        says("Returns the new length of the buffer.");
        MakerLines y = new MakerLines();
        due("of an empty one", y.append(33), 1);
        for (int length = 2; length <= 60; length++) {
            due("append", y.append(126), length);
        }
        due("append saves nothing", y.count(15), 0);

        says("Throws `IllegalStateException` if the buffer has 60 characters");
        throwsBy("the sixty-first", y, STATE, () -> y.append(33));
        due("they are as they were", y.digest(), hash(y, "!" + "~".repeat(59)));
    }

    private static void promise10() {
        says("Returns the length that it had.");
        MakerLines x = new MakerLines();
        due("empty", x.clearBuffer(), 0);
        x.append(33);
        due("one", x.clearBuffer(), 1);
        for (int i = 0; i < 60; i++) {
            x.append(33);
        }
        due("sixty", x.clearBuffer(), 60);

        says("Clears the buffer.");
        due("empty then", x.clearBuffer(), 0);
        due("no error then", x.firstError(), 0);
        due("room then", x.append(33), 1);
        due("clearBuffer saves nothing", x.count(15), 0);
    }

    private static void promise11() {
        says("Returns the index of the first character that is a syntax error; the length of the buffer if there is none.");
        due("an empty buffer", new MakerLines().firstError(), 0);
        due("the first character", typed(9, ";").firstError(), 0);
        due("the first character", typed(9, "9").firstError(), 0);
        due("the first character", typed(9, "/").firstError(), 0);
        due("the first character", typed(9, ":").firstError(), 0);
        due("one character, no error", typed(9, "8").firstError(), 1);
        due("ten cells", typed(10, "9").firstError(), 1);
        due("ten cells", typed(10, ":").firstError(), 0);
        due("two cells", typed(2, "1").firstError(), 1);
        due("two cells", typed(2, "2").firstError(), 0);
        due("equal digits", typed(9, "0;44").firstError(), 3);
        due("descending digits", typed(9, "0;43").firstError(), 3);
        due("ascending digits", typed(9, "0;34").firstError(), 4);
        due("a new line begins anew", typed(9, "8;0;8;0").firstError(), 7);
        due("two separators", typed(9, "0;;").firstError(), 2);
        due("other signs", typed(9, "0<").firstError(), 1);
        String longest = "01;01;01;01;01;01;01;01;01;01;01;01;01;01;01;01;01;01;01;01";
        due("59 characters", typed(9, longest).firstError(), 59);
        due("the last one of 60", typed(9, longest + "1").firstError(), 59);
        due("none in 60", typed(9, longest + "2").firstError(), 60);
        MakerLines less = typed(9, "08");
        less.begin(8);
        due("by the cells that there are now", less.firstError(), 1);
        less.undo();
        due("by the cells that there are again", less.firstError(), 2);
    }

    private static void promise12() {
        says("Adds the lines in the buffer behind those that there are, all or none, and clears the buffer. Undoable, as one call.");
        MakerLines x = typed(10, "0123456789;9;0");
        x.addLine(6);
        due("read", x.read(), 4);
        int[] masks = {6, 1023, 512, 1};
        for (int line = 0; line < 4; line++) {
            due("mask", x.line(line, 0), masks[line]);
        }
        due("the buffer is clear", x.clearBuffer(), 0);
        due("saved as one", x.count(15), 3);
        due("undone as one", x.undo(), 2);
        due("lines", x.count(1), 1);
        due("the buffer is not undone", x.clearBuffer(), 0);

        MakerLines gap = typed(10, "58;79");
        due("lines without cell 0", gap.read(), 2);
        due("mask", gap.line(0, 0), 288);
        due("mask", gap.line(1, 0), 640);

        says("Returns how many lines there are then.");
        due("one", typed(9, "8").read(), 1);
        due("twelve", typed(9, "0;1;2;3;4;5;6;7;8;0;1;2").read(), 12);
        MakerLines eleven = typed(9, "0");
        for (int line = 0; line < 11; line++) {
            eleven.addLine(2);
        }
        due("the twelfth", eleven.read(), 12);
        due("the twelfth, its mask", eleven.line(11, 0), 1);

        says("Throws `IllegalArgumentException` if the buffer is not a complete row of lines");
        for (String text : new String[] {"", "0;", "0;1;", "0;;", ";", "9", "00", "x"}) {
            MakerLines y = typed(9, text);
            throwsBy("read of " + text, y, ARGUMENT, () -> y.read());
            due("no lines", y.count(1), 0);
            due("the buffer stays", y.clearBuffer(), text.length());
        }

        says("Throws `IllegalStateException` if there would be more than 12 lines");
        MakerLines thirteen = typed(9, "0;1;2;3;4;5;6;7;8;0;1;2;3");
        throwsBy("13 in the buffer", thirteen, STATE, () -> thirteen.read());
        due("none of them", thirteen.count(1), 0);
        due("the buffer stays", thirteen.clearBuffer(), 25);
        type(eleven, "0");
        throwsBy("one more than 12", eleven, STATE, () -> eleven.read());
        eleven.undo();
        due("11 again", eleven.read(), 12);
        MakerLines both = typed(9, "0;1");
        for (int line = 0; line < 11; line++) {
            both.addLine(2);
        }
        throwsBy("11 and 2", both, STATE, () -> both.read());
        due("none of both", both.count(1), 11);
    }

    private static void promise13() {
        says("Takes a snapshot, in place of the one with its number.");
        MakerLines x = board(2, "0");
        x.take(0);
        x.take(1);
        x.begin(10);
        x.take(0);
        x.begin(5);
        x.restore(0);
        due("the new one", x.count(0), 10);
        x.restore(1);
        due("the other one stays", x.count(0), 2);
        x.addLine(2);
        x.undo();
        x.undo();
        x.restore(1);
        due("what is done later does not change it", x.count(1), 1);

        says("Returns how many lines there are.");
        MakerLines y = board(2);
        due("no lines", y.take(0), 0);
        for (int line = 1; line <= 12; line++) {
            y.addLine(1);
            due("lines", y.take(line % 2), line);
        }
        due("take saves nothing", y.count(15), 6);

        says("Throws `IndexOutOfBoundsException` if there is no such snapshot");
        throwsBy("take(-1)", y, INDEX, () -> y.take(-1));
        throwsBy("take(2)", y, INDEX, () -> y.take(2));
    }

    private static void promise14() {
        says("Returns how many lines there are then (the latest move is that of the snapshot, too).");
        MakerLines x = board(10);
        x.take(0);
        for (int line = 0; line < 12; line++) {
            x.addLine(line == 0 ? 7 : 1020);
        }
        x.move(0);
        x.take(1);
        x.move(9);
        due("no lines", x.restore(0), 0);
        due("no move", x.count(13), NONE);
        due("twelve lines", x.restore(1), 12);
        due("the latest move", x.count(13), 0);
        due("rule 2 by the latest move", x.reply(2), 1);
        due("rule 1 there", x.reply(1), 2);
        due("moves so far", x.count(10), 2);

        says("Restores a snapshot, which stays. Undoable.");
        due("again", x.restore(0), 0);
        due("and again", x.restore(0), 0);
        due("snapshots", x.count(14), 2);
        x.undo();
        x.undo();
        due("undone", x.count(1), 12);
        due("undone: the latest move", x.count(13), 0);

        says("Throws `IllegalStateException` if it was not taken");
        MakerLines y = board(3, "0");
        throwsBy("none is taken", y, STATE, () -> y.restore(0));
        y.take(0);
        throwsBy("the other one is taken", y, STATE, () -> y.restore(1));
        due("it is taken", y.restore(0), 1);
        throwsBy("restore(-1)", y, INDEX, () -> y.restore(-1));
        throwsBy("restore(2)", y, INDEX, () -> y.restore(2));
    }

    private static void promise15() {
        says("Returns how many saved states are left.");
        MakerLines x = new MakerLines();
        for (int saved = 1; saved <= 6; saved++) {
            x.begin(saved + 1);
        }
        for (int left = 5; left >= 0; left--) {
            due("left", x.undo(), left);
            due("count(15)", x.count(15), left);
        }

        says("Throws `IllegalStateException` if there is none");
        throwsBy("all are used", x, STATE, () -> x.undo());
        MakerLines none = new MakerLines();
        throwsBy("a new object", none, STATE, () -> none.undo());
        none.take(0);
        none.append('0');
        throwsBy("nothing undoable", none, STATE, () -> none.undo());

        says("Restores the latest saved state, and drops it.");
        MakerLines y = board(4, "01", "23");
        String before = look(y) + counted(y);
        y.move(0);
        String behind = look(y) + counted(y);
        y.move(1);
        y.undo();
        same("one move ahead", look(y) + counted(y), behind);
        y.undo();
        same("two moves ahead", look(y) + counted(y), before);
        y.undo();
        due("lines", y.count(1), 1);
        y.undo();
        y.undo();
        due("the first state", y.digest(), new MakerLines().digest());
    }

    // ---- Promises: looks

    private static void promise16() {
        says("0: its mask; 1: 1 if it is dead, otherwise 0; 2: its free cells, how many; 3: its weight; 4: the maker's cells of it, how many");
        MakerLines x = board(10, "0123456789", "9", "01");
        looksOfLine(x, 0, 1023, 0, 10, 1, 0);
        looksOfLine(x, 1, 512, 0, 1, 512, 0);
        looksOfLine(x, 2, 3, 0, 2, 256, 0);
        moves(x, 0, 8);
        looksOfLine(x, 0, 1023, 1, 8, 0, 1);
        looksOfLine(x, 2, 3, 0, 1, 512, 1);
        moves(x, 7, 1);
        looksOfLine(x, 0, 1023, 1, 6, 0, 2);
        looksOfLine(x, 2, 3, 1, 0, 0, 1);
        moves(x, 9);
        looksOfLine(x, 1, 512, 0, 0, 1024, 1);
        MakerLines twelve = board(2, "0", "1", "0", "1", "0", "1", "0", "1", "0", "1", "0", "01");
        looksOfLine(twelve, 11, 3, 0, 2, 256, 0);
        looksOfLine(twelve, 10, 1, 0, 1, 512, 0);

        says("Throws `IllegalArgumentException` if what is not 0 to 4");
        throwsBy("line(0, -1)", x, ARGUMENT, () -> x.line(0, -1));
        throwsBy("line(0, 5)", x, ARGUMENT, () -> x.line(0, 5));
        throwsBy("line(3, 0)", x, INDEX, () -> x.line(3, 0));
        throwsBy("line(-1, 0)", x, INDEX, () -> x.line(-1, 0));
        throwsBy("line(3, 5)", x, INDEX, () -> x.line(3, 5));
        throwsBy("line(12, 0)", twelve, INDEX, () -> twelve.line(12, 0));
    }

    private static void looksOfLine(MakerLines x, int line, int... due) {
        for (int what = 0; what < 5; what++) {
            due("line(" + line + ", " + what + ")", x.line(line, what), due[what]);
        }
    }

    private static void promise17() {
        says("0: whose it is, 0 to 2; 1: its danger; 2: the other cell of its pair in the pairing of the board, NONE if there is no pairing, or it is in no pair; 3: lines that are not dead in which it is, how many");
        MakerLines x = board(10, "0123456789", "89", "019");
        looksOfCell(x, 0, 0, 129, 1, 2);
        looksOfCell(x, 2, 0, 1, NONE, 1);
        looksOfCell(x, 8, 0, 257, 9, 2);
        looksOfCell(x, 9, 0, 385, 8, 3);
        moves(x, 0, 9);
        looksOfCell(x, 0, 1, 0, NONE, 0);
        looksOfCell(x, 9, 2, 0, NONE, 0);
        looksOfCell(x, 8, 0, 0, NONE, 0);
        MakerLines y = board(4, "01", "02", "03");
        looksOfCell(y, 0, 0, 768, NONE, 3);
        moves(y, 0, 1);
        looksOfCell(y, 0, 1, 0, NONE, 2);
        looksOfCell(y, 1, 2, 0, NONE, 0);
        looksOfCell(y, 3, 0, 512, NONE, 1);
        y.move(3);
        looksOfCell(y, 3, 1, 0, NONE, 1);
        MakerLines twelve = board(2, "1", "1", "1", "1", "1", "1", "1", "1", "1", "1", "1", "1");
        looksOfCell(twelve, 1, 0, 6144, NONE, 12);
        looksOfCell(twelve, 0, 0, 0, NONE, 0);
        looksOfCell(new MakerLines(), 8, 0, 0, NONE, 0);

        says("Throws `IllegalArgumentException` if what is not 0 to 3");
        throwsBy("cell(0, -1)", x, ARGUMENT, () -> x.cell(0, -1));
        throwsBy("cell(0, 4)", x, ARGUMENT, () -> x.cell(0, 4));
        throwsBy("cell(10, 0)", x, INDEX, () -> x.cell(10, 0));
        throwsBy("cell(-1, 0)", x, INDEX, () -> x.cell(-1, 0));
        throwsBy("cell(10, 4)", x, INDEX, () -> x.cell(10, 4));
        throwsBy("cell(2, 0) of two", twelve, INDEX, () -> twelve.cell(2, 0));
    }

    private static void looksOfCell(MakerLines x, int cell, int... due) {
        for (int what = 0; what < 4; what++) {
            due("cell(" + cell + ", " + what + ")", x.cell(cell, what), due[what]);
        }
    }

    private static void promise18() {
        says("looks; nothing is changed");
        MakerLines all = board(6, "01", "23", "045");
        all.move(0);
        all.take(0);
        all.begin(7);
        all.undo();
        type(all, "5;");
        long before = all.digest();
        looks(all);
        due("behind all looks", all.digest(), before);
        due("the buffer, behind all looks", all.clearBuffer(), 2);
        due("the saved states, behind all looks", all.undo(), 4);
        due("the snapshot, behind all looks", all.restore(0), 3);
        due("the latest move, behind all looks", all.count(13), 0);

        says("Returns the cell; NONE if the game is not open.");
        for (int rule = 0; rule < 4; rule++) {
            due("the maker, rule " + rule, makerByRules().reply(rule), MAKER_BY_RULES[rule]);
            due("the breaker, rule " + rule, breakerByRules().reply(rule), BREAKER_BY_RULES[rule]);
            due("no lines", new MakerLines().reply(rule), NONE);
            MakerLines maker = board(3, "0", "1");
            due("the least cell", maker.reply(rule), 0);
            maker.move(0);
            due("the maker has won, a threat is left", maker.reply(rule), NONE);
            MakerLines breaker = board(3, "01");
            moves(breaker, 0, 1);
            due("the breaker has won", breaker.reply(rule), NONE);
            MakerLines last = board(2, "01");
            last.move(0);
            due("the only free cell", last.reply(rule), 1);
        }

        says("Throws `IllegalArgumentException` if rule is out of range");
        MakerLines x = board(3, "01");
        throwsBy("reply(-1)", x, ARGUMENT, () -> x.reply(-1));
        throwsBy("reply(4)", x, ARGUMENT, () -> x.reply(4));
        MakerLines empty = new MakerLines();
        throwsBy("reply(4), not open", empty, ARGUMENT, () -> empty.reply(4));
    }

    private static void promise19() {
        says("0: 1 if the maker wins, 2 if the breaker does; 1: the length of it, 0 if it is not open");
        solved(board(10, "9"), 1, 1);
        solved(board(10, "89"), 2, 10);
        MakerLines last = board(2, "01");
        last.move(0);
        solved(last, 2, 1);
        last.skip();
        solved(last, 1, 1);

        says("Returns the number (of a game that is not open: who has won).");
        solved(new MakerLines(), 2, 0);
        MakerLines maker = board(10, "0", "12", "13");
        maker.move(0);
        solved(maker, 1, 0);
        MakerLines breaker = board(10, "0");
        breaker.skip();
        breaker.move(0);
        solved(breaker, 2, 0);

        says("Throws `IllegalArgumentException` if what is not 0 or 1");
        throwsBy("solved(-1)", last, ARGUMENT, () -> last.solved(-1));
        throwsBy("solved(2)", last, ARGUMENT, () -> last.solved(2));
        throwsBy("solved(2), not open", maker, ARGUMENT, () -> maker.solved(2));
    }

    private static void promise20() {
        says("Returns 1 if the maker would win, 2 if the breaker would; NONE if the game is not open, or the cell is not free.");
        MakerLines x = board(5, "01", "02", "034");
        ifMoved(x, 1, 2, 2, 2, 2);
        x.move(0);
        ifMoved(x, NONE, 1, 1, 1, 1);
        x.move(1);
        ifMoved(x, NONE, NONE, 1, 1, 1);
        x.move(2);
        ifMoved(x, NONE, NONE, NONE, NONE, NONE);
        MakerLines lines = new MakerLines();
        ifMoved(lines, NONE, NONE, NONE, NONE, NONE, NONE, NONE, NONE, NONE);
        MakerLines breaker = board(3, "12");
        breaker.skip();
        ifMoved(breaker, 2, 2, 2);
        moves(breaker, 1);
        ifMoved(breaker, NONE, NONE, NONE);
        MakerLines ends = board(2, "1");
        ifMoved(ends, 2, 1);
        ends.skip();
        ifMoved(ends, 1, 2);

        says("Throws `IndexOutOfBoundsException` if there is no such cell");
        throwsBy("ifMoved(5)", x, INDEX, () -> x.ifMoved(5));
        throwsBy("ifMoved(-1)", x, INDEX, () -> x.ifMoved(-1));
        throwsBy("ifMoved(9), not open", lines, INDEX, () -> lines.ifMoved(9));
        throwsBy("ifMoved(2) of two", ends, INDEX, () -> ends.ifMoved(2));
    }

    private static void ifMoved(MakerLines x, int... due) {
        long before = x.digest();
        for (int cell = 0; cell < due.length; cell++) {
            due("ifMoved(" + cell + ")", x.ifMoved(cell), due[cell]);
        }
        due("looks change nothing", x.digest(), before);
    }

    private static void promise21() {
        says("Returns who would win in the end, 1 the maker, 2 the breaker; if the game is not open, who has won.");
        due("no lines", new MakerLines().ifPlayed(0, 0), 2);
        due("in ten moves", board(10, "9").ifPlayed(0, 0), 2);
        MakerLines nine = board(10, "8");
        due("in nine moves", nine.ifPlayed(0, 0), 1);
        due("in one move", nine.ifPlayed(1, 0), 1);
        nine.skip();
        due("in one move of the breaker", nine.ifPlayed(3, 3), 2);
        MakerLines ten = board(10, "9");
        ten.skip();
        due("in ten moves, the breaker first", ten.ifPlayed(0, 0), 1);
        MakerLines maker = board(3, "0", "12");
        maker.move(0);
        for (int rule = 0; rule < 4; rule++) {
            due("the maker has won", maker.ifPlayed(rule, 3 - rule), 1);
        }
        MakerLines breaker = board(3, "0");
        breaker.skip();
        breaker.move(0);
        due("the breaker has won", breaker.ifPlayed(3, 3), 2);
        due("nothing is counted", nine.count(10) + nine.count(11) + nine.count(12), 0);
        due("nothing is saved", nine.count(15), 3);

        says("the rule by which the maker would move, 0 to 3");
        int[] alone = {2, 2, 2, 1};
        int[] allBut = {1, 1, 2, 1};
        for (int rule = 0; rule < 4; rule++) {
            MakerLines x = board(7, "45", "02", "036", "256");
            due("the maker's rule " + rule, x.ifPlayed(rule, 1), alone[rule]);
            MakerLines y = board(8, "167", "024");
            due("the maker's rule " + rule, y.ifPlayed(rule, 0), allBut[rule]);
        }

        says("the rule by which the breaker would move, 0 to 3");
        int[] forced = {1, 2, 2, 2};
        int[] paired = {1, 1, 2, 2};
        int[] best = {1, 1, 1, 2};
        for (int rule = 0; rule < 4; rule++) {
            MakerLines x = board(8, "05", "14");
            due("the breaker's rule " + rule, x.ifPlayed(1, rule), forced[rule]);
            MakerLines y = board(8, "57", "24", "035", "234");
            y.move(3);
            due("the breaker's rule " + rule + " from the latest move on", y.ifPlayed(1, rule), paired[rule]);
            MakerLines z = board(8, "03", "23", "127", "16");
            z.move(7);
            due("the breaker's rule " + rule, z.ifPlayed(1, rule), best[rule]);
        }

        says("Throws `IllegalArgumentException` if an argument is out of range");
        for (int bad : new int[] {-1, 4}) {
            throwsBy("maker " + bad, nine, ARGUMENT, () -> nine.ifPlayed(bad, 0));
            throwsBy("breaker " + bad, nine, ARGUMENT, () -> nine.ifPlayed(0, bad));
            throwsBy("maker " + bad + ", not open", maker, ARGUMENT, () -> maker.ifPlayed(bad, 0));
            throwsBy("breaker " + bad + ", not open", maker, ARGUMENT, () -> maker.ifPlayed(0, bad));
        }
    }

    private static void promise22() {
        says("0: cells; 1: lines; 2: lines that are not dead; 3: the weight of the board; 4: the mover, 1 or 2, 0 if the game is not open; 5: who has won, 1 or 2, 0 if it is open; 6: threats, as a mask; 7: the forced reply, NONE if there is none (or the game is not open)");
        MakerLines x = board(10, "9", "9", "01", "789", "0123456789");
        counts(x, 10, 5, 5, 1409, 1, 0, 512, 9, NONE, 1023);
        moves(x, 0);
        counts(x, 10, 5, 5, 1666, 2, 0, 514, 1, NONE, 1022);
        moves(x, 9);
        counts(x, 10, 5, 1, 512, 1, 0, 2, 1, NONE, 510);
        x.undo();
        x.skip();
        moves(x, 9);
        counts(x, 10, 5, 5, 2820, 0, 1, 2, NONE, NONE, 510);
        MakerLines two = board(2, "01");
        counts(two, 2, 1, 1, 256, 1, 0, 0, NONE, 1, 3);
        moves(two, 1, 0);
        counts(two, 2, 1, 0, 0, 0, 2, 0, NONE, 0, 0);
        MakerLines twelve = board(2, "0", "0", "0", "0", "0", "0", "0", "0", "0", "0", "0", "0");
        counts(twelve, 2, 12, 12, 6144, 1, 0, 1, 0, NONE, 3);

        says("8: pairs of the pairing of the board (0 if all lines are dead), NONE if there is no pairing");
        due("no lines", new MakerLines().count(8), 0);
        due("five", board(10, "01", "23", "45", "67", "89").count(8), 5);
        due("one", board(10, "01").count(8), 1);
        due("none", board(10, "01", "12").count(8), NONE);

        says("10: moves so far; 11: games that were won by the maker so far (by a move that ended them); 12: likewise by the breaker");
        MakerLines y = board(10, "9");
        y.play(0, 0, 10);
        due("moves", y.count(10), 10);
        due("games of the maker", y.count(11), 0);
        due("games of the breaker", y.count(12), 1);
        y.clear(true);
        y.move(9);
        due("moves", y.count(10), 11);
        due("games of the maker", y.count(11), 1);
        due("games of the breaker", y.count(12), 1);
        y.removeLine(0);
        due("the breaker has won by no move", y.count(5), 2);
        due("games of the breaker", y.count(12), 1);
        y.addLine(512);
        due("the maker has won by no move", y.count(5), 1);
        due("games of the maker", y.count(11), 1);
        y.begin(2);
        due("begin: moves", y.count(10), 11);
        due("begin: games", y.count(11) + y.count(12), 2);
        for (int game = 0; game < 40; game++) {
            y.begin(2);
            y.addLine(1);
            y.move(0);
        }
        due("many moves", y.count(10), 51);
        due("many games", y.count(11), 41);

        says("13: the cell of the latest move, NONE if there was none since the board was begun, cleared or skipped");
        MakerLines z = board(10, "01", "9");
        due("none", z.count(13), NONE);
        z.move(0);
        due("the least cell", z.count(13), 0);
        z.addLine(6);
        z.removeLine(0);
        due("lines do not change it", z.count(13), 0);
        z.move(9);
        due("the greatest cell", z.count(13), 9);
        z.skip();
        due("skipped", z.count(13), NONE);
        z.undo();
        z.clear(true);
        due("cleared", z.count(13), NONE);
        z.undo();
        due("undone", z.count(13), 9);
        z.begin(10);
        due("begun", z.count(13), NONE);
        z.addLine(4);
        z.move(2);
        due("the latest one ended the game", z.count(13), 2);

        says("14: snapshots that are taken; 15: saved states");
        MakerLines w = new MakerLines();
        due("no snapshots", w.count(14), 0);
        due("no saved states", w.count(15), 0);
        w.take(1);
        due("one snapshot", w.count(14), 1);
        for (int saved = 1; saved <= 7; saved++) {
            w.clear(true);
            due("saved states", w.count(15), Math.min(saved, 6));
        }
        w.take(0);
        due("two snapshots", w.count(14), 2);

        says("Throws `IllegalArgumentException` if what is not 0 to 15");
        throwsBy("count(-1)", w, ARGUMENT, () -> w.count(-1));
        throwsBy("count(16)", w, ARGUMENT, () -> w.count(16));
    }

    private static void promise23() {
        says("Returns the weight of the board, as a double, divided by 1024.");
        share(new MakerLines(), 0.0);
        share(board(10, "0123456789"), 0.0009765625);
        share(eachSize(), 0.9990234375);
        share(board(2, "0", "1"), 1.0);
        share(board(10, "0", "1", "0123456789"), 1.0009765625);
        share(greatestWeight(), 12.0);
        MakerLines dead = board(3, "012");
        moves(dead, 0, 1);
        share(dead, 0.0);
        for (int size = 1; size <= 10; size++) {
            MakerLines x = board(10);
            double due = 0.0;
            for (int line = 0; line < 12; line++) {
                x.addLine((1 << size) - 1);
                due += 1.0 / (1 << size);
                share(x, due);
            }
        }
    }

    private static void share(MakerLines x, double due) {
        due("the bits of weightShare", Double.doubleToRawLongBits(x.weightShare()),
            Double.doubleToRawLongBits(due));
        due("digest of a share", x.digest(), hash(x, ""));
    }

    private static void promise24() {
        says("The hash starts at 2503. For each value v of the following list, in order, the hash becomes 31 * hash + v, in long arithmetic with overflow.");
        MakerLines x = new MakerLines();
        due("no lines, an empty buffer", x.digest(), hash(x, ""));
        String text = "";
        for (int length = 1; length <= 60; length++) {
            text += (char) (32 + length);
            x.append(32 + length);
            due("a buffer of " + length, x.digest(), hash(x, text));
        }
        x.clearBuffer();
        due("a buffer that is cleared", x.digest(), hash(x, ""));
        MakerLines two = board(2, "0", "01", "1", "0", "01", "1", "0", "01", "1", "0", "01", "1");
        due("two cells, twelve lines", two.digest(), hash(two, ""));
        two.move(1);
        due("the maker has won", two.digest(), hash(two, ""));
        MakerLines ten = board(10, "0123", "234", "6789", "04", "15", "26", "37", "48", "59", "0123456789");
        for (int cell : new int[] {2, 6, 3, 7, 5, 9, 4, 0, 8, 1}) {
            due("ten cells", ten.digest(), hash(ten, ""));
            if (ten.count(5) == 0) {
                ten.move(cell);
            }
        }
        due("ten cells, not open", ten.digest(), hash(ten, ""));
        ten.undo();
        ten.skip();
        due("ten cells, skipped", ten.digest(), hash(ten, ""));
        ten.take(0);
        ten.take(1);
        due("two snapshots", ten.digest(), hash(ten, ""));
    }

    private static void manyCalls() {
        says("An object is used for at most 512 calls after it has been made; what later calls answer is free.");
        MakerLines x = board(10, "9");
        for (int call = 2; call < 508; call += 2) {
            due("to the last cell", x.play(0, 0, 10), 10);
            due("all ten", x.clear(true), 10);
        }
        due("moves", x.count(10), 2530);
        due("games of the breaker", x.count(12), 253);
        due("saved states", x.count(15), 6);
        due("the 512th call", x.solved(0), 1);
    }

    private static void promise24OfGames() {
        says("ifPlayed with 1 and 1, with 1 and 2, with 2 and 3, and with 3 and 1");
        // On each of these boards it is told by some of the rules alone who wins.
        MakerLines first = board(6, "05", "013", "145", "1234", "123");
        due("no move", first.digest(), hash(first, ""));
        MakerLines second = board(8, "57", "24", "035", "234");
        second.move(3);
        due("behind the maker's move", second.digest(), hash(second, ""));
        MakerLines third = board(5, "23", "012", "234", "012", "03");
        due("no move", third.digest(), hash(third, ""));
        MakerLines fourth = board(8, "12");
        fourth.clear(false);
        fourth.move(1);
        add(fourth, "56", "57");
        due("the maker wins by rule 1", fourth.ifPlayed(1, 1), 1);
        due("the maker loses by rule 2", fourth.ifPlayed(2, 1), 2);
        due("behind the breaker's move", fourth.digest(), hash(fourth, ""));
    }

    // ---- helpers

    /** The checks from here on are those of a sentence; it is told if the document has other words now. */
    private static void says(String text) {
        sentence = text;
        if (!document.isEmpty() && !document.contains(text)) {
            System.out.println("not in the document: " + text);
        }
    }

    private static void must(boolean holds, String what) {
        checks++;
        if (!holds) {
            wrong++;
            System.out.println(sentence + " | " + what);
        }
    }

    private static void due(String what, long got, long due) {
        must(got == due, what + " answered " + got + ", due is " + due);
    }

    private static void same(String what, String got, String due) {
        must(got.equals(due), what + ": " + got + ", due is " + due);
    }

    private static void holds(String what, boolean holds) {
        must(holds, what + " does not hold");
    }

    private static String thrown(Call call) {
        try {
            call.answer();
        } catch (RuntimeException e) {
            return e.getClass().getName();
        }
        return "nothing";
    }

    /** The call throws exactly this exception, and changes nothing. */
    private static void throwsBy(String what, MakerLines x, String exception, Call call) {
        long before = x.digest();
        same(what + " throws", thrown(call), exception);
        due(what + " changes nothing", x.digest(), before);
    }

    /** A board with lines that are told by their cells. */
    private static MakerLines board(int cells, String... lines) {
        MakerLines x = new MakerLines();
        x.begin(cells);
        for (String line : lines) {
            x.addLine(mask(line));
        }
        return x;
    }

    private static void add(MakerLines x, String... lines) {
        for (String line : lines) {
            x.addLine(mask(line));
        }
    }

    private static int mask(String cells) {
        int mask = 0;
        for (char cell : cells.toCharArray()) {
            mask |= 1 << (cell - '0');
        }
        return mask;
    }

    private static MakerLines typed(int cells, String text) {
        MakerLines x = board(cells);
        type(x, text);
        return x;
    }

    private static void type(MakerLines x, String text) {
        for (char c : text.toCharArray()) {
            x.append(c);
        }
    }

    private static void moves(MakerLines x, int... cells) {
        for (int cell : cells) {
            x.move(cell);
        }
    }

    /** The counts from count(0) on. */
    private static void counts(MakerLines x, int... due) {
        for (int what = 0; what < due.length; what++) {
            due("count(" + what + ")", x.count(what), due[what]);
        }
    }

    /** The number of pairs in the pairing, and for each cell from 0 on the other one of its pair. */
    private static void pairs(MakerLines x, int size, int... partners) {
        due("pairing: size", x.count(8), size);
        for (int cell = 0; cell < partners.length; cell++) {
            due("pairing: cell " + cell, x.cell(cell, 2), partners[cell]);
        }
    }

    private static void solved(MakerLines x, int winner, int length) {
        due("solved(0)", x.solved(0), winner);
        due("solved(1)", x.solved(1), length);
    }

    /** What a snapshot keeps: cells, lines, whose cells are, the mover and the latest move. */
    private static String look(MakerLines x) {
        StringBuilder text = new StringBuilder();
        for (int what = 0; what < 10; what++) {
            text.append(x.count(what)).append(' ');
        }
        text.append(x.count(13)).append(" lines");
        for (int line = 0; line < x.count(1); line++) {
            text.append(' ').append(x.line(line, 0));
        }
        text.append(" cells");
        for (int cell = 0; cell < x.count(0); cell++) {
            text.append(' ').append(x.cell(cell, 0));
        }
        text.append(" replies");
        for (int rule = 0; rule < 4; rule++) {
            text.append(' ').append(x.reply(rule));
        }
        return text.toString();
    }

    private static String counted(MakerLines x) {
        return " moves " + x.count(10) + " games " + x.count(11) + " " + x.count(12);
    }

    /** Makes each look once. */
    private static void looks(MakerLines x) {
        hash(x, "");
        x.digest();
    }

    /** The digest as the document tells it, by the looks of the face. */
    private static long hash(MakerLines x, String buffer) {
        long hash = 2503;
        for (int what = 0; what <= 15; what++) {
            hash = 31 * hash + x.count(what);
        }
        for (int line = 0; line < x.count(1); line++) {
            for (int what = 0; what <= 4; what++) {
                hash = 31 * hash + x.line(line, what);
            }
        }
        for (int cell = 0; cell < x.count(0); cell++) {
            for (int what = 0; what <= 3; what++) {
                hash = 31 * hash + x.cell(cell, what);
            }
            hash = 31 * hash + x.ifMoved(cell);
        }
        long[] rest = {x.reply(0), x.reply(1), x.reply(2), x.reply(3), x.solved(0), x.solved(1),
            x.ifPlayed(1, 1), x.ifPlayed(1, 2), x.ifPlayed(2, 3), x.ifPlayed(3, 1),
            Double.doubleToLongBits(x.weightShare()), buffer.length()};
        for (long v : rest) {
            hash = 31 * hash + v;
        }
        for (char code : buffer.toCharArray()) {
            hash = 31 * hash + code;
        }
        return hash;
    }
}
