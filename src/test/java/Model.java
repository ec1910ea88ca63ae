import java.math.BigInteger;
import java.util.ArrayDeque;
import java.util.ArrayList;
import java.util.Arrays;
import java.util.Deque;
import java.util.HashMap;
import java.util.HashSet;
import java.util.LinkedHashMap;
import java.util.List;
import java.util.Map;
import java.util.Set;
import java.util.TreeSet;
import java.util.regex.Matcher;
import java.util.regex.Pattern;

/**
 * The document once more, written from its words in the plainest way with the Java library: squares as
 * points, lays as sets of them, all that follows by trying. ModelTest asks both and compares.
 */
final class Model {
    record Square(int board, int x, int y) { }

    record Shape(int wide, int high, Set<List<Integer>> cells) { }

    record Lay(int piece, int board, int x, int y, int turns, Set<Square> squares) { }

    record Piece(String kind, int wide, int high, boolean turns, int owner) { }

    record State(List<Integer> lying, int seed) { }

    static final class Fault extends RuntimeException {
        final int number;
        final int place;

        Fault(int number, int place) {
            this.number = number;
            this.place = place;
        }
    }

    /** What a text tells. */
    static final class Told {
        String law;
        boolean apart;
        final Map<String, int[]> boards = new LinkedHashMap<>();
        final Map<String, Piece> pieces = new LinkedHashMap<>();
        final Set<Square> jugs = new HashSet<>();
        final List<Integer> lying = new ArrayList<>();
        List<Lay> lays;
        List<Square> squares;
        final Map<Object, Object> memo = new HashMap<>();

        void findLays() {
            if (lays != null) {
                return;
            }
            squares = new ArrayList<>();
            int b = 0;
            for (int[] size : boards.values()) {
                for (int y = 0; y < size[1]; y++) {
                    for (int x = 0; x < size[0]; x++) {
                        squares.add(new Square(b, x, y));
                    }
                }
                b++;
            }
            lays = new ArrayList<>();
            int p = 0;
            for (Piece piece : pieces.values()) {
                List<Shape> shapes = shapesOf(piece);
                b = 0;
                for (int[] size : boards.values()) {
                    for (int y = 0; y < size[1]; y++) {
                        for (int x = 0; x < size[0]; x++) {
                            for (int t = 0; t < shapes.size(); t++) {
                                addIfItFits(p, b, size, x, y, t, shapes.get(t));
                            }
                        }
                    }
                    b++;
                }
                p++;
            }
        }

        private void addIfItFits(int p, int b, int[] size, int x, int y, int t, Shape shape) {
            if (shape == null || x + shape.wide() > size[0] || y + shape.high() > size[1]) {
                return;
            }
            Set<Square> on = new HashSet<>();
            for (List<Integer> cell : shape.cells()) {
                on.add(new Square(b, x + cell.get(0), y + cell.get(1)));
            }
            for (Square jug : jugs) {
                if (on.contains(jug)) {
                    return;
                }
            }
            lays.add(new Lay(p, b, x, y, t, on));
        }

        static List<Shape> shapesOf(Piece piece) {
            Set<List<Integer>> cells = new HashSet<>();
            for (int y = 0; y < piece.high(); y++) {
                for (int x = 0; x < piece.wide(); x++) {
                    cells.add(List.of(x, y));
                }
            }
            if (piece.kind().equals("corner")) {
                cells.remove(List.of(piece.wide() - 1, piece.high() - 1));
            }
            List<Shape> shapes = new ArrayList<>();
            Shape shape = new Shape(piece.wide(), piece.high(), cells);
            for (int t = 0; t < (piece.turns() ? 4 : 1); t++) {
                shapes.add(shapes.contains(shape) ? null : shape);
                Set<List<Integer>> turned = new HashSet<>();
                for (List<Integer> cell : shape.cells()) {
                    turned.add(List.of(shape.high() - 1 - cell.get(1), cell.get(0)));
                }
                shape = new Shape(shape.high(), shape.wide(), turned);
            }
            return shapes;
        }

        Set<Square> taken(List<Integer> numbers) {
            Set<Square> taken = new HashSet<>();
            for (int l : numbers) {
                taken.addAll(lays.get(l).squares());
            }
            return taken;
        }

        boolean isFree(int l, Set<Square> taken) {
            for (Square s : lays.get(l).squares()) {
                if (taken.contains(s)) {
                    return false;
                }
                if (apart) {
                    for (Square t : taken) {
                        if (t.board() == s.board() && Math.abs(t.x() - s.x()) + Math.abs(t.y() - s.y()) == 1) {
                            return false;
                        }
                    }
                }
            }
            return true;
        }

        int ownerOf(int l) {
            return new ArrayList<>(pieces.values()).get(lays.get(l).piece()).owner();
        }

        List<Integer> free(Set<Square> taken) {
            List<Integer> free = new ArrayList<>();
            for (int l = 0; l < lays.size(); l++) {
                if (isFree(l, taken)) {
                    free.add(l);
                }
            }
            return free;
        }

        List<Integer> may(Set<Square> taken, int next) {
            List<Integer> may = new ArrayList<>();
            for (int l : free(taken)) {
                if (ownerOf(l) == -1 || ownerOf(l) == next) {
                    may.add(l);
                }
            }
            return may;
        }

        Set<Square> behind(Set<Square> taken, int l) {
            Set<Square> all = new HashSet<>(taken);
            all.addAll(lays.get(l).squares());
            return all;
        }

        boolean has(Set<Square> taken, int next) {
            Object key = List.of("has", taken, next);
            Boolean kept = (Boolean) memo.get(key);
            if (kept == null) {
                List<Integer> may = may(taken, next);
                kept = may.isEmpty() && law.equals("wins");
                for (int l : may) {
                    kept |= !has(behind(taken, l), 1 - next);
                }
                memo.put(key, kept);
            }
            return kept;
        }

        List<Integer> winning(Set<Square> taken, int next) {
            List<Integer> winning = new ArrayList<>();
            for (int l : may(taken, next)) {
                if (!has(behind(taken, l), 1 - next)) {
                    winning.add(l);
                }
            }
            return winning;
        }

        int soonest(Set<Square> taken, int next) {
            Object key = List.of("soonest", taken, next);
            Integer kept = (Integer) memo.get(key);
            if (kept != null) {
                return kept;
            }
            TreeSet<Integer> lengths = new TreeSet<>();
            boolean has = has(taken, next);
            for (int l : has ? winning(taken, next) : may(taken, next)) {
                lengths.add(1 + soonest(behind(taken, l), 1 - next));
            }
            int answer = lengths.isEmpty() ? 0 : has ? lengths.first() : lengths.last();
            memo.put(key, answer);
            return answer;
        }

        BigInteger ways(Set<Square> taken, int next) {
            Object key = List.of("ways", taken, next);
            BigInteger kept = (BigInteger) memo.get(key);
            if (kept == null) {
                List<Integer> may = may(taken, next);
                kept = may.isEmpty() ? BigInteger.ONE : BigInteger.ZERO;
                for (int l : may) {
                    kept = kept.add(ways(behind(taken, l), 1 - next));
                }
                memo.put(key, kept);
            }
            return kept;
        }

        TreeSet<Integer> lengths(Set<Square> taken, int next) {
            Object key = List.of("lengths", taken, next);
            @SuppressWarnings("unchecked")
            TreeSet<Integer> kept = (TreeSet<Integer>) memo.get(key);
            if (kept == null) {
                kept = new TreeSet<>();
                List<Integer> may = may(taken, next);
                if (may.isEmpty()) {
                    kept.add(0);
                }
                for (int l : may) {
                    for (int length : lengths(behind(taken, l), 1 - next)) {
                        kept.add(length + 1);
                    }
                }
                memo.put(key, kept);
            }
            return kept;
        }

        BigInteger lot(Set<Square> taken, int next) {
            Object key = List.of("lot", taken, next);
            BigInteger kept = (BigInteger) memo.get(key);
            if (kept == null) {
                List<Integer> may = may(taken, next);
                BigInteger sum = BigInteger.ZERO;
                for (int l : may) {
                    sum = sum.add(BigInteger.valueOf(1000000)).add(lot(behind(taken, l), 1 - next));
                }
                kept = may.isEmpty() ? sum : sum.divide(BigInteger.valueOf(may.size()));
                memo.put(key, kept);
            }
            return kept;
        }

        /** Of the lays on one board alone, or (-1) of all together, without adding heaps. */
        int grundy(Set<Square> taken, int board) {
            Object key = List.of("grundy", taken, board);
            Integer kept = (Integer) memo.get(key);
            if (kept == null) {
                Set<Integer> seen = new HashSet<>();
                for (int l : free(taken)) {
                    if (board == -1 || lays.get(l).board() == board) {
                        seen.add(grundy(behind(taken, l), board));
                    }
                }
                kept = 0;
                while (seen.contains(kept)) {
                    kept++;
                }
                memo.put(key, kept);
            }
            return kept;
        }

        Square halfRound(Square s) {
            int[] size = new ArrayList<>(boards.values()).get(s.board());
            return new Square(s.board(), size[0] - 1 - s.x(), size[1] - 1 - s.y());
        }

        Set<Square> halfRound(Set<Square> all) {
            Set<Square> turned = new HashSet<>();
            for (Square s : all) {
                turned.add(halfRound(s));
            }
            return turned;
        }

        int across(int l) {
            for (int k = 0; k < lays.size(); k++) {
                if (lays.get(k).piece() == lays.get(l).piece()
                        && lays.get(k).squares().equals(halfRound(lays.get(l).squares()))) {
                    return k;
                }
            }
            return -2;
        }

        boolean isHalf(int board, Set<Square> taken) {
            for (Square s : squares) {
                if (s.board() == board && (jugs.contains(s) != jugs.contains(halfRound(s))
                        || taken.contains(s) != taken.contains(halfRound(s)))) {
                    return false;
                }
            }
            return true;
        }

        boolean isHeap() {
            for (Piece piece : pieces.values()) {
                if (piece.owner() != -1) {
                    return false;
                }
            }
            return law.equals("loses");
        }

        int byAcross(Set<Square> taken, boolean deeper) {
            for (int b = 0; b < boards.size(); b++) {
                if (!isHeap() || !isHalf(b, taken)) {
                    return 0;
                }
            }
            boolean all = true;
            for (int l : free(taken)) {
                int other = across(l);
                all &= other != -2 && isFree(other, behind(taken, l));
            }
            if (all) {
                return 2;
            }
            for (int l : free(taken)) {
                if (deeper && across(l) == l && byAcross(behind(taken, l), false) == 2) {
                    return 1;
                }
            }
            return 0;
        }
    }

    private static final class Token {
        final String text;
        final int place;
        final boolean good;

        Token(String text, int place) {
            this.text = text;
            this.place = place;
            this.good = text.isEmpty() || text.matches("[a-z]{1,8}|[0-9]{1,3}|[;,]");
        }
    }

    /** Reads a text with a throw at the first fault. */
    private static final class Reader {
        final List<Token> tokens = new ArrayList<>();
        final Told told = new Told();
        int at;

        Reader(String text) {
            Matcher m = Pattern.compile("[a-z]+|[0-9]+|[^ ]", Pattern.DOTALL).matcher(text);
            while (m.find()) {
                tokens.add(new Token(m.group(), m.start()));
            }
            tokens.add(new Token("", text.length()));
        }

        Token now() {
            return tokens.get(at);
        }

        Fault fault(int number) {
            return new Fault(number, now().place);
        }

        boolean is(String word) {
            return now().good && now().text.equals(word);
        }

        boolean perhaps(String word) {
            if (is(word)) {
                at++;
                return true;
            }
            return false;
        }

        void must(String word) {
            if (!perhaps(word)) {
                throw fault(1);
            }
        }

        String oneOf(String... words) {
            for (String word : words) {
                if (perhaps(word)) {
                    return word;
                }
            }
            throw fault(1);
        }

        String name() {
            if (!now().good || !now().text.matches("[a-z]+")
                    || List.of("table", "board", "jug", "piece", "lay").contains(now().text)) {
                throw fault(1);
            }
            return now().text;
        }

        String newName() {
            String name = name();
            if (told.boards.containsKey(name) || told.pieces.containsKey(name)) {
                throw fault(3);
            }
            at++;
            return name;
        }

        int whole() {
            if (!now().good || !now().text.matches("[0-9]+")) {
                throw fault(1);
            }
            return Integer.parseInt(now().text);
        }

        int whole(int least, int most) {
            int value = whole();
            if (value < least || value > most) {
                throw fault(4);
            }
            at++;
            return value;
        }

        Told read() {
            do {
                line();
            } while (perhaps(";"));
            if (!is("") || at != tokens.size() - 1) {
                throw fault(1);
            }
            if (told.law == null || told.boards.isEmpty() || told.pieces.isEmpty()) {
                throw fault(6);
            }
            told.findLays();
            return told;
        }

        private void line() {
            if (is("table") && told.law != null) {
                throw fault(3);
            }
            if (is("board") && told.boards.size() == 3 || is("piece") && told.pieces.size() == 4
                    || is("lay") && told.lying.size() == 8) {
                throw fault(5);
            }
            if (is("lay") && told.law == null
                    || (is("board") || is("jug") || is("piece")) && !told.lying.isEmpty()) {
                throw fault(6);
            }
            switch (oneOf("table", "board", "jug", "piece", "lay")) {
                case "table" -> {
                    told.law = oneOf("loses", "wins");
                    told.apart = perhaps("apart");
                }
                case "board" -> board();
                case "jug" -> jug();
                case "piece" -> piece();
                default -> lay();
            }
        }

        private void board() {
            String name = newName();
            must("wide");
            int wide = whole(1, 8);
            must("high");
            int high = whole(1, 4);
            int all = wide * high;
            for (int[] size : told.boards.values()) {
                all += size[0] * size[1];
            }
            if (all > 14) {
                at--;
                throw fault(4);
            }
            told.boards.put(name, new int[] {wide, high});
        }

        private void jug() {
            String name = name();
            if (!told.boards.containsKey(name)) {
                throw fault(2);
            }
            at++;
            int[] size = told.boards.get(name);
            int x = whole(0, size[0] - 1);
            must(",");
            int y = whole(0, size[1] - 1);
            Square jug = new Square(new ArrayList<>(told.boards.keySet()).indexOf(name), x, y);
            if (!told.jugs.add(jug)) {
                at--;
                throw fault(3);
            }
        }

        private void piece() {
            String name = newName();
            String kind = oneOf("coin", "block", "corner");
            int least = kind.equals("corner") ? 2 : 1;
            int most = kind.equals("corner") ? 3 : 4;
            int wide = 1;
            int high = 1;
            if (!kind.equals("coin")) {
                wide = whole(least, most);
                must(",");
                high = whole(least, most);
            }
            boolean turns = perhaps("turns");
            int owner = perhaps("first") ? 0 : perhaps("second") ? 1 : -1;
            told.pieces.put(name, new Piece(kind, wide, high, turns, owner));
        }

        private void lay() {
            int l = whole();
            told.findLays();
            if (!told.may(told.taken(told.lying), told.lying.size() % 2).contains(l)) {
                throw fault(7);
            }
            told.lying.add(l);
            at++;
        }
    }

    /** Thrown where a call is refused, with its trouble. */
    private static final class Refused extends RuntimeException {
        final int trouble;

        Refused(int trouble) {
            super(null, null, false, false);
            this.trouble = trouble;
        }
    }

    static final long THROWS = -99;

    private final StringBuilder tape = new StringBuilder();
    private int fault;
    private int place;
    private int trouble;
    private Told t;
    private State state = new State(new ArrayList<>(), 0);
    private final Deque<State> past = new ArrayDeque<>();
    private final List<State> images = new ArrayList<>();

    long call(String name, int... a) {
        switch (name) {
            case "feed": return feed(a);
            case "fault": return fault;
            case "where": return trouble == 4 ? place : -1;
            case "trouble": return trouble;
            case "told": return told(a[0]);
            case "led": return a[0] >= 0 && a[0] < state.lying().size() ? state.lying().get(a[0]) : THROWS;
            default: return refusable(name, a);
        }
    }

    private long refusable(String name, int... a) {
        try {
            long answer = answer(name, a);
            trouble = 0;
            return answer;
        } catch (Refused e) {
            trouble = e.trouble;
            return List.of("puts", "seed", "undo", "back").contains(name) ? 0 : -1;
        }
    }

    private long feed(int... a) {
        if (tape.length() + 20 > 900) {
            return -1;
        }
        for (int number : a) {
            for (int i = 3; i >= 0; i--) {
                tape.append((char) (number >> 8 * i & 255));
            }
        }
        return tape.length();
    }

    private long told(int what) {
        if (what < 0 || what > 11) {
            return -1;
        }
        if (what == 11) {
            return tape.length();
        }
        if (t == null) {
            return 0;
        }
        int lying = state.lying().size();
        int[] all = {t.boards.size(), t.pieces.size(), t.squares.size(), t.jugs.size(), t.law.equals("wins") ? 1 : 0,
            t.apart ? 1 : 0, lying, lying % 2, state.seed(), past.size(), images.size()};
        return all[what];
    }

    private void need(boolean so, int trouble) {
        if (!so) {
            throw new Refused(trouble);
        }
    }

    private long answer(String name, int... a) {
        switch (name) {
            case "table": return table(a[0]);
            case "size": case "rows": case "rowLay": case "round": return rowsAnswer(name, a);
            case "undo":
                need(!past.isEmpty(), 6);
                state = past.pop();
                return 1;
            case "back":
                need(a[0] >= 0 && a[0] < images.size(), 1);
                state = images.get(a[0]);
                past.clear();
                return 1;
            default:
                need(t != null, 1);
                return tableAnswer(name, a);
        }
    }

    private long table(int n) {
        need(n >= 0 && n <= tape.length(), 2);
        String text = tape.substring(0, n);
        tape.setLength(0);
        try {
            t = new Reader(text).read();
        } catch (Fault f) {
            fault = f.number;
            place = f.place;
            throw new Refused(4);
        }
        fault = 0;
        state = new State(t.lying, 0);
        past.clear();
        images.clear();
        return t.lays.size();
    }

    private int[] sizes(int k) {
        int[] g = new int[201];
        for (int n = 0; n <= 200; n++) {
            TreeSet<Integer> seen = new TreeSet<>();
            for (int i = 0; i + k <= n; i++) {
                seen.add(g[i] ^ g[n - k - i]);
            }
            while (seen.contains(g[n])) {
                g[n]++;
            }
        }
        return g;
    }

    private long rowsAnswer(String name, int... a) {
        int k = name.equals("rows") ? a[3] : name.equals("round") ? a[0] : a[1];
        need(k >= 1 && k <= 9, 2);
        int[] g = sizes(k);
        if (name.equals("round")) {
            for (int p = 1; p <= 60; p++) {
                for (int start = 0; start <= 100; start++) {
                    if (Arrays.equals(Arrays.copyOfRange(g, start, 201 - p), Arrays.copyOfRange(g, start + p, 201))) {
                        return a[1] != 0 ? start : p;
                    }
                }
            }
            return -2;
        }
        need(a[0] >= 0 && a[0] <= 200, 2);
        if (name.equals("size")) {
            return g[a[0]];
        }
        if (name.equals("rows")) {
            need(a[1] >= 0 && a[1] <= 200 && a[2] >= 0 && a[2] <= 200, 2);
            return (g[a[0]] ^ g[a[1]] ^ g[a[2]]) == 0 ? 0 : 1;
        }
        need(a[2] >= 0 && a[2] <= 99, 2);
        for (int i = 0; i + k <= a[0]; i++) {
            if ((g[i] ^ g[a[0] - k - i]) == a[2]) {
                return i;
            }
        }
        return -2;
    }

    private long bits(Set<Square> all) {
        long bits = 0;
        for (Square s : all) {
            bits |= 1L << t.squares.indexOf(s);
        }
        return bits;
    }

    private void act(List<Integer> lying, int seed) {
        past.push(state);
        if (past.size() > 16) {
            past.removeLast();
        }
        state = new State(lying, seed);
    }

    private static List<Integer> with(List<Integer> lying, int l) {
        List<Integer> all = new ArrayList<>(lying);
        all.add(l);
        return all;
    }

    private long tableAnswer(String name, int... a) {
        Set<Square> taken = t.taken(state.lying());
        int next = state.lying().size() % 2;
        List<Integer> may = t.may(taken, next);
        List<Integer> free = t.free(taken);
        boolean isLay = a.length > 0 && a[0] >= 0 && a[0] < t.lays.size();
        boolean isPlayer = a.length > 0 && a[0] >= 0 && a[0] < 5;
        switch (name) {
            case "lay": {
                need(isLay && a[1] >= 0 && a[1] <= 5, 1);
                Lay lay = t.lays.get(a[0]);
                return new long[] {lay.piece(), lay.board(), lay.x(), lay.y(), lay.turns(), bits(lay.squares())}[a[1]];
            }
            case "layOf":
                need(a[0] >= 0 && a[0] < t.pieces.size() && a[1] >= 0 && a[1] < t.boards.size(), 1);
                need(a[4] >= 0 && a[4] <= 3, 2);
                for (Lay lay : t.lays) {
                    if (Arrays.equals(a, new int[] {lay.piece(), lay.board(), lay.x(), lay.y(), lay.turns()})) {
                        return t.lays.indexOf(lay);
                    }
                }
                return -2;
            case "may":
                need(isLay, 1);
                return may.contains(a[0]) ? 1 : 0;
            case "lays": return may.size();
            case "layAt":
                need(a[0] >= 0 && a[0] < may.size(), 1);
                return may.get(a[0]);
            case "across":
                need(isLay, 1);
                return t.across(a[0]);
            case "taken": return bits(taken);
            case "dead": {
                Set<Square> dead = new HashSet<>(t.squares);
                dead.removeAll(taken);
                dead.removeAll(t.jugs);
                for (int l : free) {
                    dead.removeAll(t.lays.get(l).squares());
                }
                return bits(dead);
            }
            case "over": return may.isEmpty() ? 1 : 0;
            case "has": return t.has(taken, next) ? 1 : 0;
            case "best": return t.winning(taken, next).isEmpty() ? -2 : t.winning(taken, next).get(0);
            case "good": return t.winning(taken, next).size();
            case "soonest": return t.soonest(taken, next);
            case "ways": return t.ways(taken, next).min(new BigInteger("1000000000000000000")).longValueExact();
            case "heap":
                need(a[0] >= -1 && a[0] < t.boards.size(), 1);
                need(t.isHeap(), 5);
                return t.grundy(taken, a[0]);
            case "byAcross": return t.byAcross(taken, true);
            case "half":
                need(a[0] >= 0 && a[0] < t.boards.size(), 1);
                return t.isHalf(a[0], taken) ? 1 : 0;
            case "spoils": {
                need(isLay, 1);
                need(may.contains(a[0]), 5);
                return free.size() - t.free(t.behind(taken, a[0])).size();
            }
            case "open": {
                need(a[0] >= 0 && a[0] < t.squares.size(), 1);
                int count = 0;
                for (int l : free) {
                    count += t.lays.get(l).squares().contains(t.squares.get(a[0])) ? 1 : 0;
                }
                return count;
            }
            case "elbow":
                for (Square s : t.squares) {
                    Set<Square> more = new HashSet<>(taken);
                    if (more.add(s) && !t.jugs.contains(s) && t.has(more, next) != t.has(taken, next)) {
                        return t.squares.indexOf(s);
                    }
                }
                return -2;
            case "fewest": return t.lengths(taken, next).first();
            case "most": return t.lengths(taken, next).last();
            case "lot": return t.lot(taken, next).longValueExact();
            case "would": {
                need(isPlayer, 1);
                State then = would(a[0], state);
                return then == null ? -2 : then.lying().get(then.lying().size() - 1);
            }
            case "match": case "matchLong":
                need(isPlayer && a[1] >= 0 && a[1] < 5, 1);
                return match(a[0], a[1])[name.equals("match") ? 0 : 1];
            case "beats": {
                need(isPlayer, 1);
                long bits = 0;
                for (int other = 0; other < 5; other++) {
                    bits |= match(a[0], other)[0] == 0 ? 1L << other : 0;
                }
                return bits;
            }
            case "puts":
                need(isLay, 1);
                need(may.contains(a[0]), 5);
                act(with(state.lying(), a[0]), state.seed());
                return 1;
            case "takes": {
                int lying = state.lying().size();
                need(lying > 0, 6);
                int latest = state.lying().get(lying - 1);
                act(new ArrayList<>(state.lying().subList(0, lying - 1)), state.seed());
                return latest;
            }
            case "plays": {
                need(isPlayer, 1);
                State then = would(a[0], state);
                need(then != null, 6);
                act(then.lying(), then.seed());
                return then.lying().get(then.lying().size() - 1);
            }
            case "seed":
                need(a[0] >= 0 && a[0] <= 65536, 2);
                state = new State(state.lying(), a[0]);
                return 1;
            case "image":
                need(images.size() < 3, 3);
                images.add(state);
                return images.size() - 1;
            default: throw new IllegalArgumentException(name);
        }
    }

    /** The state behind a player's lay; null if it is over. */
    private State would(int player, State s) {
        Set<Square> taken = t.taken(s.lying());
        int next = s.lying().size() % 2;
        List<Integer> may = t.may(taken, next);
        if (may.isEmpty()) {
            return null;
        }
        int chosen = may.get(0);
        int seed = s.seed();
        if (player == 1) {
            int least = Integer.MAX_VALUE;
            for (int l : may) {
                int left = t.may(t.behind(taken, l), 1 - next).size();
                if (left < least) {
                    least = left;
                    chosen = l;
                }
            }
        } else if (player == 2 && !s.lying().isEmpty()) {
            int other = t.across(s.lying().get(s.lying().size() - 1));
            chosen = may.contains(other) ? other : chosen;
        } else if (player == 3) {
            seed = BigInteger.valueOf(75).multiply(BigInteger.valueOf(seed)).add(BigInteger.valueOf(74))
                    .mod(BigInteger.valueOf(65537)).intValue();
            chosen = may.get(seed % may.size());
        } else if (player == 4) {
            List<Integer> winning = t.winning(taken, next);
            chosen = winning.isEmpty() ? chosen : winning.get(0);
        }
        return new State(with(s.lying(), chosen), seed);
    }

    private long[] match(int player, int other) {
        State s = state;
        long length = 0;
        while (true) {
            State then = would(length % 2 == 0 ? player : other, s);
            if (then == null) {
                long stuck = length % 2;
                return new long[] {t.law.equals("wins") ? stuck : 1 - stuck, length};
            }
            s = then;
            length++;
        }
    }

    State state() {
        return state;
    }

    Told table() {
        return t;
    }
}
