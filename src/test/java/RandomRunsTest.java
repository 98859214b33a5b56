import java.util.ArrayDeque;
import java.util.ArrayList;
import java.util.Arrays;
import java.util.HashMap;
import java.util.List;
import java.util.Map;
import java.util.Random;

/**
 * Makes the same random calls of a MakerLines and of a model that follows the document word by word,
 * with no thought of speed, and compares every answer, every exception and the digests.
 */
public final class RandomRunsTest {
    private static final int[] WILD = {
        -1, 16, 11, 12, 32, 127, 1024, 59049, -2, Integer.MIN_VALUE, Integer.MAX_VALUE};

    private static int wrong = 0;

    public static void main(String[] args) {
        long calls = 0;
        for (int run = 0; run < 700 && wrong < 5; run++) {
            calls += run(run);
        }
        System.out.println(calls + " random calls, " + wrong + " runs wrong");
        if (wrong != 0) {
            System.exit(1);
        }
    }

    private static int run(int seed) {
        Random random = new Random(seed);
        int most = new int[] {3, 5, 6, 7, 8, 10}[random.nextInt(6)];
        MakerLines x = new MakerLines();
        Model model = new Model();
        StringBuilder story = new StringBuilder();
        int calls = most > 8 ? 60 : 150;
        for (int i = 0; i < calls; i++) {
            Call call = i == 0 ? new Call("begin", most) : Call.any(random, model, most);
            story.append(call).append('\n');
            boolean withDigest = random.nextInt(most > 8 ? 12 : 3) == 0 || i == calls - 1;
            if (!sameAnswer(call, x, model, story) || withDigest && !sameDigest(x, model, story)) {
                wrong++;
                System.out.println("run " + seed + " went wrong:\n" + story);
                return i;
            }
        }
        return calls;
    }

    private static boolean sameAnswer(Call call, MakerLines x, Model model, StringBuilder story) {
        String got = call.answer(x);
        String due = call.answer(model);
        if (!got.equals(due)) {
            story.append("answered ").append(got).append(", due is ").append(due).append('\n');
        }
        return got.equals(due);
    }

    private static boolean sameDigest(MakerLines x, Model model, StringBuilder story) {
        long got = x.digest();
        long due = model.digest();
        if (got != due || got != x.digest()) {
            story.append("digest ").append(got).append(", due is ").append(due).append('\n');
        }
        return got == due;
    }

    /** A call with its arguments. */
    private static final class Call {
        private static final String[] NAMES = {
            "begin", "addLine", "addLine", "addLine", "addLine", "addLine", "addLine", "removeLine",
            "clear", "move", "move", "move", "move", "move", "move", "move", "skip", "play", "play",
            "append", "append", "append", "append", "append", "append", "clearBuffer", "firstError",
            "read", "read", "take", "restore", "undo", "undo", "line", "cell", "cell", "reply", "reply",
            "solved", "ifMoved", "ifPlayed", "count", "count", "weightShare", "text"};

        final String name;
        final int[] a;

        Call(String name, int... a) {
            this.name = name;
            this.a = a;
        }

        static Call any(Random random, Model model, int most) {
            String name = NAMES[random.nextInt(NAMES.length)];
            int cells = model.now.n;
            switch (name) {
                case "begin":
                    return new Call(name, random.nextInt(4) > 0 ? most : pick(random, 1, most + 1));
                case "addLine":
                    return new Call(name, mask(random, cells));
                case "removeLine":
                case "line":
                    return new Call(name, pick(random, 0, model.now.lines.size()), pick(random, 0, 5));
                case "clear":
                case "take":
                case "restore":
                    return new Call(name, pick(random, 0, 2));
                case "append":
                    return new Call(name, code(random, cells));
                case "cell":
                    return new Call(name, pick(random, 0, cells), pick(random, 0, 4));
                case "move":
                case "ifMoved":
                    return new Call(name, pick(random, 0, cells));
                case "text":
                    return new Call(name, text(random, cells));
                case "play":
                    return new Call(name, pick(random, 0, 4), pick(random, 0, 4), pick(random, 1, 11));
                case "ifPlayed":
                    return new Call(name, pick(random, 0, 4), pick(random, 0, 4));
                case "reply":
                    return new Call(name, pick(random, 0, 4));
                default:
                    return new Call(name, pick(random, 0, name.equals("count") ? 16 : 2));
            }
        }

        /** A number from the least one on, mostly below the end, now and then a wild one. */
        private static int pick(Random random, int least, int end) {
            if (random.nextInt(12) == 0) {
                return random.nextInt(3) == 0 ? end : WILD[random.nextInt(WILD.length)];
            }
            return least + random.nextInt(Math.max(1, end - least));
        }

        private static int mask(Random random, int cells) {
            if (random.nextInt(12) == 0) {
                return random.nextInt(3) == 0 ? 0 : WILD[random.nextInt(WILD.length)];
            }
            int mask = 0;
            int many = 1 + random.nextInt(random.nextInt(3) == 0 ? cells : Math.min(cells, 3));
            for (int i = 0; i < many; i++) {
                mask |= 1 << random.nextInt(cells);
            }
            return mask;
        }

        private static int code(Random random, int cells) {
            int kind = random.nextInt(10);
            if (kind == 0) {
                return 31 + random.nextInt(97);
            }
            return kind < 4 ? ';' : '0' + random.nextInt(Math.min(10, cells + 1));
        }

        /** A complete text of some lines, put behind an empty buffer. */
        private static int[] text(Random random, int cells) {
            List<Integer> codes = new ArrayList<>();
            int lines = 1 + random.nextInt(5);
            for (int i = 0; i < lines; i++) {
                if (i > 0) {
                    codes.add((int) ';');
                }
                int mask = 1 + random.nextInt((1 << cells) - 1);
                for (int cell = 0; cell < cells; cell++) {
                    if ((mask >> cell & 1) != 0) {
                        codes.add('0' + cell);
                    }
                }
            }
            return codes.stream().mapToInt(Integer::intValue).toArray();
        }

        String answer(MakerLines x) {
            try {
                switch (name) {
                    case "begin": return "" + x.begin(a[0]);
                    case "addLine": return "" + x.addLine(a[0]);
                    case "removeLine": return "" + x.removeLine(a[0]);
                    case "clear": return "" + x.clear(a[0] == 0);
                    case "move": return "" + x.move(a[0]);
                    case "skip": return "" + x.skip();
                    case "play": return "" + x.play(a[0], a[1], a[2]);
                    case "append": return "" + x.append(a[0]);
                    case "clearBuffer": return "" + x.clearBuffer();
                    case "firstError": return "" + x.firstError();
                    case "read": return "" + x.read();
                    case "take": return "" + x.take(a[0]);
                    case "restore": return "" + x.restore(a[0]);
                    case "undo": return "" + x.undo();
                    case "line": return "" + x.line(a[0], a[1]);
                    case "cell": return "" + x.cell(a[0], a[1]);
                    case "reply": return "" + x.reply(a[0]);
                    case "solved": return "" + x.solved(a[0]);
                    case "ifMoved": return "" + x.ifMoved(a[0]);
                    case "ifPlayed": return "" + x.ifPlayed(a[0], a[1]);
                    case "count": return "" + x.count(a[0]);
                    case "weightShare": return "" + x.weightShare();
                    case "text":
                        x.clearBuffer();
                        for (int code : a) {
                            x.append(code);
                        }
                        return x.firstError() + " " + x.read();
                    default: throw new AssertionError(name);
                }
            } catch (RuntimeException e) {
                return e.getClass().getName();
            }
        }

        String answer(Model x) {
            try {
                switch (name) {
                    case "begin": return "" + x.begin(a[0]);
                    case "addLine": return "" + x.addLine(a[0]);
                    case "removeLine": return "" + x.removeLine(a[0]);
                    case "clear": return "" + x.clear(a[0] == 0);
                    case "move": return "" + x.move(a[0]);
                    case "skip": return "" + x.skip();
                    case "play": return "" + x.play(a[0], a[1], a[2]);
                    case "append": return "" + x.append(a[0]);
                    case "clearBuffer": return "" + x.clearBuffer();
                    case "firstError": return "" + x.firstError();
                    case "read": return "" + x.read();
                    case "take": return "" + x.take(a[0]);
                    case "restore": return "" + x.restore(a[0]);
                    case "undo": return "" + x.undo();
                    case "line": return "" + x.line(a[0], a[1]);
                    case "cell": return "" + x.cell(a[0], a[1]);
                    case "reply": return "" + x.reply(a[0]);
                    case "solved": return "" + x.solved(a[0]);
                    case "ifMoved": return "" + x.ifMoved(a[0]);
                    case "ifPlayed": return "" + x.ifPlayed(a[0], a[1]);
                    case "count": return "" + x.count(a[0]);
                    case "weightShare": return "" + x.weightShare();
                    case "text":
                        x.clearBuffer();
                        for (int code : a) {
                            x.append(code);
                        }
                        return x.firstError() + " " + x.read();
                    default: throw new AssertionError(name);
                }
            } catch (RuntimeException e) {
                return e.getClass().getName();
            }
        }

        @Override
        public String toString() {
            return name + Arrays.toString(a);
        }
    }

    /** A board with all that belongs to it; never changed once it is shared. */
    private static final class Board {
        int n = 9;
        List<Integer> lines = new ArrayList<>();
        int[] owner = new int[9];
        int mover = 1;
        int latest = -1;
        /** The board, with its lines, as it was ahead of the latest move. */
        Board ahead = null;

        Board copy() {
            Board b = new Board();
            b.n = n;
            b.lines = new ArrayList<>(lines);
            b.owner = owner.clone();
            b.mover = mover;
            b.latest = latest;
            b.ahead = ahead;
            return b;
        }

        List<Integer> cellsOf(int mask) {
            List<Integer> cells = new ArrayList<>();
            for (int k = 0; k < n; k++) {
                if ((mask & (1 << k)) != 0) {
                    cells.add(k);
                }
            }
            return cells;
        }

        int owned(int mask, int by) {
            int many = 0;
            for (int k : cellsOf(mask)) {
                many += owner[k] == by ? 1 : 0;
            }
            return many;
        }

        boolean dead(int mask) {
            return owned(mask, 2) > 0;
        }

        int winner() {
            boolean allDead = true;
            for (int mask : lines) {
                if (owned(mask, 1) == cellsOf(mask).size()) {
                    return 1;
                }
                allDead &= dead(mask);
            }
            return allDead ? 2 : 0;
        }

        int weight(int mask) {
            return dead(mask) ? 0 : 1024 >> owned(mask, 0);
        }

        int danger(int k) {
            int sum = 0;
            for (int mask : lines) {
                if (owner[k] == 0 && cellsOf(mask).contains(k)) {
                    sum += weight(mask);
                }
            }
            return sum;
        }

        boolean threat(int k) {
            for (int mask : lines) {
                if (owner[k] == 0 && cellsOf(mask).contains(k) && !dead(mask) && owned(mask, 0) == 1) {
                    return true;
                }
            }
            return false;
        }

        int forced() {
            for (int k = 0; k < n; k++) {
                if (winner() == 0 && threat(k)) {
                    return k;
                }
            }
            return -1;
        }

        List<Integer> free() {
            List<Integer> cells = new ArrayList<>();
            for (int k = 0; k < n; k++) {
                if (owner[k] == 0) {
                    cells.add(k);
                }
            }
            return cells;
        }

        Board behind(int k) {
            Board b = copy();
            b.owner[k] = mover;
            b.mover = 3 - mover;
            b.latest = k;
            b.ahead = this.copy();
            b.ahead.ahead = null;
            return b;
        }

        /** The pairing; null if there is none. */
        List<int[]> pairing() {
            return pairing(0, new ArrayList<>());
        }

        private List<int[]> pairing(int i, List<int[]> pairs) {
            if (i == lines.size()) {
                return pairs;
            }
            List<Integer> cells = cellsOf(lines.get(i));
            boolean none = dead(lines.get(i));
            List<Integer> open = new ArrayList<>();
            for (int k : cells) {
                boolean used = owner[k] != 0;
                for (int[] pair : pairs) {
                    used |= pair[0] == k || pair[1] == k;
                }
                if (!used) {
                    open.add(k);
                }
            }
            for (int[] pair : pairs) {
                none |= cells.contains(pair[0]) && cells.contains(pair[1]);
            }
            if (none) {
                return pairing(i + 1, pairs);
            }
            for (int low : open) {
                for (int high : open) {
                    if (low < high) {
                        List<int[]> more = new ArrayList<>(pairs);
                        more.add(new int[] {low, high});
                        List<int[]> found = pairing(i + 1, more);
                        if (found != null) {
                            return found;
                        }
                    }
                }
            }
            return null;
        }

        int partner(int k) {
            List<int[]> pairs = pairing();
            if (pairs != null) {
                for (int[] pair : pairs) {
                    if (pair[0] == k || pair[1] == k) {
                        return pair[0] + pair[1] - k;
                    }
                }
            }
            return -1;
        }
    }

    /** The document's class, told plainly. */
    private static final class Model {
        Board now = new Board();
        int[] counted = new int[3];
        final Board[] snapshots = new Board[2];
        final ArrayDeque<Board> savedBoards = new ArrayDeque<>();
        final ArrayDeque<int[]> savedCounts = new ArrayDeque<>();
        final List<Integer> buffer = new ArrayList<>();
        private final Map<Long, Integer> lengths = new HashMap<>();
        private List<Integer> solvedLines = null;
        private int solvedCells = 0;

        private void save() {
            savedBoards.addLast(now.copy());
            savedCounts.addLast(counted.clone());
            if (savedBoards.size() > 6) {
                savedBoards.removeFirst();
                savedCounts.removeFirst();
            }
        }

        private static void must(boolean holds, RuntimeException e) {
            if (!holds) {
                throw e;
            }
        }

        private static RuntimeException argument() {
            return new IllegalArgumentException();
        }

        private static RuntimeException index() {
            return new IndexOutOfBoundsException();
        }

        private static RuntimeException state() {
            return new IllegalStateException();
        }

        int begin(int cells) {
            must(2 <= cells && cells <= 10, argument());
            save();
            int before = now.n;
            now = new Board();
            now.n = cells;
            now.owner = new int[cells];
            return before;
        }

        int addLine(int mask) {
            must(0 < mask && mask < (1 << now.n), argument());
            must(now.lines.size() < 12, state());
            save();
            now.lines.add(mask);
            return now.lines.size() - 1;
        }

        int removeLine(int line) {
            must(0 <= line && line < now.lines.size(), index());
            save();
            return now.lines.remove(line);
        }

        int clear(boolean isMaker) {
            save();
            int taken = now.n - now.free().size();
            now.owner = new int[now.n];
            now.mover = isMaker ? 1 : 2;
            now.latest = -1;
            now.ahead = null;
            return taken;
        }

        int move(int cell) {
            must(0 <= cell && cell < now.n, index());
            must(now.winner() == 0 && now.owner[cell] == 0, state());
            save();
            go(cell);
            return now.winner();
        }

        private void go(int cell) {
            now = now.behind(cell);
            counted[0]++;
            if (now.winner() != 0) {
                counted[now.winner()]++;
            }
        }

        int skip() {
            must(now.winner() == 0, state());
            save();
            now.mover = 3 - now.mover;
            now.latest = -1;
            now.ahead = null;
            return now.mover;
        }

        private static boolean rule(int rule) {
            return 0 <= rule && rule <= 3;
        }

        int play(int maker, int breaker, int moves) {
            must(rule(maker) && rule(breaker) && 1 <= moves && moves <= 10, argument());
            must(now.winner() == 0, state());
            save();
            int made = 0;
            for (; made < moves && now.winner() == 0; made++) {
                go(told(now, now.mover == 1 ? maker : breaker));
            }
            return made;
        }

        int append(int code) {
            must(33 <= code && code <= 126, argument());
            must(buffer.size() < 60, state());
            buffer.add(code);
            return buffer.size();
        }

        int clearBuffer() {
            int before = buffer.size();
            buffer.clear();
            return before;
        }

        private String text() {
            StringBuilder text = new StringBuilder();
            for (int code : buffer) {
                text.append((char) code);
            }
            return text.toString();
        }

        /** Whether a row of lines begins with the text: it, or it with one more digit, is one. */
        private boolean begins(String text) {
            boolean begins = text.isEmpty() || complete(text);
            for (int k = 0; k < now.n; k++) {
                begins |= complete(text + k);
            }
            return begins;
        }

        private boolean complete(String text) {
            for (String line : text.split(";", -1)) {
                boolean good = line.matches("[0-9]+");
                for (int i = 0; good && i < line.length(); i++) {
                    good = line.charAt(i) - '0' < now.n && (i == 0 || line.charAt(i - 1) < line.charAt(i));
                }
                if (!good) {
                    return false;
                }
            }
            return true;
        }

        int firstError() {
            String text = text();
            for (int i = 0; i < text.length(); i++) {
                if (!begins(text.substring(0, i + 1))) {
                    return i;
                }
            }
            return text.length();
        }

        int read() {
            String text = text();
            must(complete(text), argument());
            String[] lines = text.split(";");
            must(now.lines.size() + lines.length <= 12, state());
            save();
            for (String line : lines) {
                int mask = 0;
                for (char digit : line.toCharArray()) {
                    mask += 1 << (digit - '0');
                }
                now.lines.add(mask);
            }
            buffer.clear();
            return now.lines.size();
        }

        int take(int snapshot) {
            must(snapshot == 0 || snapshot == 1, index());
            snapshots[snapshot] = now.copy();
            return now.lines.size();
        }

        int restore(int snapshot) {
            must(snapshot == 0 || snapshot == 1, index());
            must(snapshots[snapshot] != null, state());
            save();
            now = snapshots[snapshot].copy();
            return now.lines.size();
        }

        int undo() {
            must(!savedBoards.isEmpty(), state());
            now = savedBoards.removeLast();
            counted = savedCounts.removeLast();
            return savedBoards.size();
        }

        int line(int line, int what) {
            must(0 <= line && line < now.lines.size(), index());
            must(0 <= what && what <= 4, argument());
            int mask = now.lines.get(line);
            int[] all = {mask, now.dead(mask) ? 1 : 0, now.owned(mask, 0), now.weight(mask),
                now.owned(mask, 1)};
            return all[what];
        }

        int cell(int cell, int what) {
            must(0 <= cell && cell < now.n, index());
            must(0 <= what && what <= 3, argument());
            int alive = 0;
            for (int mask : now.lines) {
                alive += now.cellsOf(mask).contains(cell) && !now.dead(mask) ? 1 : 0;
            }
            int[] all = {now.owner[cell], now.danger(cell), now.partner(cell), alive};
            return all[what];
        }

        int reply(int rule) {
            must(rule(rule), argument());
            return now.winner() == 0 ? told(now, rule) : -1;
        }

        int solved(int what) {
            must(what == 0 || what == 1, argument());
            if (now.winner() != 0) {
                return what == 0 ? now.winner() : 0;
            }
            int length = length(now);
            if (what == 0) {
                return length < 0 ? 2 : 1;
            }
            return length < 0 ? now.free().size() : length;
        }

        int ifMoved(int cell) {
            must(0 <= cell && cell < now.n, index());
            if (now.winner() != 0 || now.owner[cell] != 0) {
                return -1;
            }
            return length(now.behind(cell)) < 0 ? 2 : 1;
        }

        int ifPlayed(int maker, int breaker) {
            must(rule(maker) && rule(breaker), argument());
            Board b = now;
            while (b.winner() == 0) {
                b = b.behind(told(b, b.mover == 1 ? maker : breaker));
            }
            return b.winner();
        }

        private int told(Board b, int rule) {
            if (rule == 0) {
                return b.free().get(0);
            }
            if (rule == 3) {
                return best(b);
            }
            if (rule == 2 && b.latest >= 0 && b.ahead.partner(b.latest) >= 0) {
                return b.ahead.partner(b.latest);
            }
            if (b.forced() >= 0) {
                return b.forced();
            }
            int cell = b.free().get(0);
            for (int k : b.free()) {
                if (b.danger(k) > b.danger(cell)) {
                    cell = k;
                }
            }
            return cell;
        }

        private int best(Board b) {
            List<Integer> free = b.free();
            int found = -1;
            boolean makerWins = length(b) >= 0;
            for (int k : free) {
                int behind = length(b.behind(k));
                if (b.mover == 2 && !makerWins && behind < 0) {
                    return k;
                }
                if (b.mover == 1 && !makerWins) {
                    return free.get(0);
                }
                if (makerWins && behind >= 0) {
                    int sofar = found < 0 ? 0 : length(b.behind(found));
                    if (found < 0 || b.mover == 1 && behind < sofar || b.mover == 2 && behind > sofar) {
                        found = k;
                    }
                }
            }
            return found;
        }

        /** In how many moves the maker wins; -1 if the breaker does. */
        private int length(Board b) {
            if (solvedCells != b.n || !b.lines.equals(solvedLines)) {
                lengths.clear();
                solvedCells = b.n;
                solvedLines = new ArrayList<>(b.lines);
            }
            if (b.winner() != 0) {
                return b.winner() == 1 ? 0 : -1;
            }
            long key = b.mover;
            for (int k = 0; k < b.n; k++) {
                key = key * 3 + b.owner[k];
            }
            Integer known = lengths.get(key);
            if (known != null) {
                return known;
            }
            int shortest = -1;
            int longest = -1;
            boolean allWon = true;
            for (int k : b.free()) {
                int behind = length(b.behind(k));
                allWon &= behind >= 0;
                longest = Math.max(longest, behind);
                shortest = behind >= 0 && (shortest < 0 || behind < shortest) ? behind : shortest;
            }
            int length = b.mover == 1 ? shortest : allWon ? longest : -1;
            length = length < 0 ? -1 : length + 1;
            lengths.put(key, length);
            return length;
        }

        int count(int what) {
            must(0 <= what && what <= 15, argument());
            int alive = 0;
            int weight = 0;
            int threats = 0;
            int free = 0;
            for (int mask : now.lines) {
                alive += now.dead(mask) ? 0 : 1;
                weight += now.weight(mask);
            }
            for (int k = 0; k < now.n; k++) {
                threats += now.threat(k) ? 1 << k : 0;
                free += now.owner[k] == 0 ? 1 << k : 0;
            }
            List<int[]> pairs = now.pairing();
            int taken = (snapshots[0] == null ? 0 : 1) + (snapshots[1] == null ? 0 : 1);
            int[] all = {now.n, now.lines.size(), alive, weight, now.winner() == 0 ? now.mover : 0,
                now.winner(), threats, now.forced(), pairs == null ? -1 : pairs.size(), free, counted[0],
                counted[1], counted[2], now.latest, taken, savedBoards.size()};
            return all[what];
        }

        double weightShare() {
            return count(3) / 1024.0;
        }

        long digest() {
            long hash = 2503;
            for (int what = 0; what <= 15; what++) {
                hash = 31 * hash + count(what);
            }
            for (int i = 0; i < now.lines.size(); i++) {
                for (int what = 0; what <= 4; what++) {
                    hash = 31 * hash + line(i, what);
                }
            }
            for (int k = 0; k < now.n; k++) {
                for (int what = 0; what <= 3; what++) {
                    hash = 31 * hash + cell(k, what);
                }
                hash = 31 * hash + ifMoved(k);
            }
            int[] more = {reply(0), reply(1), reply(2), reply(3), solved(0), solved(1), ifPlayed(1, 1),
                ifPlayed(1, 2), ifPlayed(2, 3), ifPlayed(3, 1)};
            for (int v : more) {
                hash = 31 * hash + v;
            }
            hash = 31 * hash + Double.doubleToLongBits(weightShare());
            hash = 31 * hash + buffer.size();
            for (int code : buffer) {
                hash = 31 * hash + code;
            }
            return hash;
        }
    }
}
