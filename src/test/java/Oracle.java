import java.math.BigInteger;
import java.util.ArrayList;
import java.util.Arrays;
import java.util.HashMap;
import java.util.List;
import java.util.Map;
import java.util.regex.Matcher;
import java.util.regex.Pattern;

/** The document written a second time, as plainly as can be and in other ways than the class. */
final class Oracle {
    static final long IOOBE = Long.MAX_VALUE;
    static final long NSEE = Long.MAX_VALUE - 1;

    private static final List<String> LANGUAGE = List.of("latch", "lean", "push", "oil", "rust", "seed", "law",
            "effort", "seal", "eat", "or", "and", "not", "up", "down", "many", "as", "worn", "place", "ups", "seals",
            "high", "tired", "minute");

    private static final class Fault extends RuntimeException {
        private static final long serialVersionUID = 1;
        final int kind;
        final int place;

        Fault(int kind, int place) {
            this.kind = kind;
            this.place = place;
        }
    }

    private static final class Mistake extends RuntimeException {
        private static final long serialVersionUID = 1;
    }

    /** Where a leaf is asked. */
    private record Env(State s, int row, int latch) {
    }

    private interface Node {
        long at(Env env);
    }

    private static final class State {
        int minute;
        int row;
        int sealed;
        int effort;
        int vain;
        long number;
        int[] worn = new int[8];

        State copy() {
            State s = new State();
            s.minute = minute;
            s.row = row;
            s.sealed = sealed;
            s.effort = effort;
            s.vain = vain;
            s.number = number;
            s.worn = worn.clone();
            return s;
        }
    }

    private static final class Told {
        List<String> names = new ArrayList<>();
        List<Integer> ups = new ArrayList<>();
        Map<Integer, Node> leans = new HashMap<>();
        Map<Integer, List<Integer>> leantOn = new HashMap<>();
        List<int[]> pushes = new ArrayList<>();
        List<Integer> oils = new ArrayList<>();
        Integer rust;
        Integer seed;
        Map<String, Node> laws = new HashMap<>();
        int knots;
        int lines;
    }

    private record Token(String text, int place) {
    }

    private static final class Parser {
        final List<Token> tokens = new ArrayList<>();
        final Told told = new Told();
        int at;
        int open;

        Parser(String text) {
            Matcher m = Pattern.compile("[ \\n]+|[a-z]+|[0-9]+|<=|<>|>=|.", Pattern.DOTALL).matcher(text);
            while (m.find()) {
                if (!m.group().isBlank() || m.group().charAt(0) != ' ' && m.group().charAt(0) != '\n') {
                    tokens.add(new Token(m.group(), m.start()));
                }
            }
            tokens.add(new Token("", text.length()));
        }

        String look() {
            return tokens.get(at).text;
        }

        boolean is(String text) {
            return look().equals(text);
        }

        RuntimeException fault(int kind) {
            return new Fault(kind, tokens.get(at).place);
        }

        void expect(String text) {
            if (!is(text)) {
                throw fault(1);
            }
            at++;
        }

        int number(int most) {
            if (!look().matches("[0-9]+")) {
                throw fault(1);
            }
            BigInteger value = new BigInteger(look());
            if (value.compareTo(BigInteger.valueOf(most)) > 0) {
                throw fault(2);
            }
            at++;
            return value.intValue();
        }

        String name() {
            if (!look().matches("[a-z]{1,6}") || LANGUAGE.contains(look())) {
                throw fault(1);
            }
            return look();
        }

        int latch() {
            int number = told.names.indexOf(name());
            if (number < 0) {
                throw fault(4);
            }
            return number;
        }

        Told text() {
            while (!is("")) {
                line();
                expect(";");
                told.lines++;
            }
            return told;
        }

        void line() {
            String word = look();
            switch (word) {
                case "latch" -> {
                    if (told.names.size() == 8) {
                        throw fault(2);
                    }
                    at++;
                    String name = name();
                    if (told.names.contains(name)) {
                        throw fault(3);
                    }
                    at++;
                    told.ups.add(number(1));
                    told.names.add(name);
                }
                case "lean" -> {
                    at++;
                    int latch = latch();
                    if (told.leans.containsKey(latch)) {
                        throw fault(3);
                    }
                    at++;
                    told.leantOn.put(latch, new ArrayList<>());
                    Node f = f(latch);
                    told.leans.put(latch, f);
                }
                case "push" -> {
                    if (told.pushes.size() == 16) {
                        throw fault(2);
                    }
                    at++;
                    int latch = latch();
                    at++;
                    told.pushes.add(new int[] {latch, number(99)});
                }
                case "oil" -> {
                    if (told.oils.size() == 4) {
                        throw fault(2);
                    }
                    at++;
                    told.oils.add(number(99));
                }
                case "rust" -> {
                    if (told.rust != null) {
                        throw fault(3);
                    }
                    at++;
                    told.rust = number(100);
                }
                case "seed" -> {
                    if (told.seed != null) {
                        throw fault(3);
                    }
                    at++;
                    told.seed = number(99999);
                }
                case "law" -> {
                    at++;
                    String law = look();
                    if (!List.of("effort", "seal", "eat").contains(law)) {
                        throw fault(1);
                    }
                    if (told.laws.containsKey(law)) {
                        throw fault(3);
                    }
                    at++;
                    told.laws.put(law, e());
                }
                default -> throw fault(1);
            }
        }

        void knot() {
            if (told.knots == 64) {
                throw fault(2);
            }
            told.knots++;
            at++;
        }

        void bracket() {
            if (open == 8) {
                throw fault(2);
            }
            open++;
            at++;
        }

        Node f(int latch) {
            Node left = g(latch);
            while (is("or")) {
                knot();
                Node a = left;
                Node b = g(latch);
                left = env -> a.at(env) | b.at(env);
            }
            return left;
        }

        Node g(int latch) {
            Node left = h(latch);
            while (is("and")) {
                knot();
                Node a = left;
                Node b = h(latch);
                left = env -> a.at(env) & b.at(env);
            }
            return left;
        }

        Node h(int latch) {
            if (is("not")) {
                knot();
                Node a = h(latch);
                return env -> 1 - a.at(env);
            }
            return p(latch);
        }

        Node p(int latch) {
            String word = look();
            if (word.equals("(")) {
                bracket();
                Node inner = f(latch);
                expect(")");
                open--;
                return inner;
            }
            if (!List.of("up", "down", "many", "as").contains(word)) {
                throw fault(1);
            }
            knot();
            if (word.equals("many")) {
                int n = number(8);
                return env -> {
                    int others = 0;
                    for (int j = 0; j < 8; j++) {
                        others += j != env.latch && (env.row >> j & 1) == 1 ? 1 : 0;
                    }
                    return others >= n ? 1 : 0;
                };
            }
            int other = latch();
            if (word.equals("as")) {
                if (!told.leans.containsKey(other)) {
                    throw fault(4);
                }
                if (told.leantOn.get(other).contains(latch)) {
                    throw fault(5);
                }
                at++;
                told.leantOn.get(latch).addAll(told.leantOn.get(other));
                return told.leans.get(other);
            }
            if (other == latch) {
                throw fault(5);
            }
            at++;
            told.leantOn.get(latch).add(other);
            boolean up = word.equals("up");
            return env -> ((env.row >> other & 1) == 1) == up ? 1 : 0;
        }

        Node e() {
            Node left = a();
            while (is("or")) {
                knot();
                left = join("or", left, a());
            }
            return left;
        }

        Node a() {
            Node left = b();
            while (is("and")) {
                knot();
                left = join("and", left, b());
            }
            return left;
        }

        Node b() {
            if (is("not")) {
                knot();
                Node a = b();
                return env -> a.at(env) == 0 ? 1 : 0;
            }
            Node left = s();
            if (List.of("<", "<=", "=", "<>", ">=", ">").contains(look())) {
                String sign = look();
                knot();
                left = join(sign, left, s());
            }
            return left;
        }

        Node s() {
            Node left = t();
            while (is("+") || is("-")) {
                String sign = look();
                knot();
                left = join(sign, left, t());
            }
            return left;
        }

        Node t() {
            Node left = u();
            while (is("*") || is("/")) {
                String sign = look();
                knot();
                left = join(sign, left, u());
            }
            return left;
        }

        Node u() {
            String word = look();
            if (word.equals("(")) {
                bracket();
                Node inner = e();
                expect(")");
                open--;
                return inner;
            }
            if (word.matches("[0-9]+")) {
                int value = number(9999);
                at--;
                knot();
                return env -> value;
            }
            if (!List.of("worn", "place", "ups", "seals", "high", "tired", "minute").contains(word)) {
                throw fault(1);
            }
            knot();
            return env -> switch (word) {
                case "worn" -> env.s.worn[env.latch];
                case "place" -> env.latch;
                case "ups" -> Integer.bitCount(env.s.row);
                case "seals" -> Integer.bitCount(env.s.sealed);
                case "high" -> env.s.row >> env.latch & 1;
                case "tired" -> env.s.effort;
                default -> env.s.minute;
            };
        }

        private static Node join(String sign, Node left, Node right) {
            return env -> {
                BigInteger a = BigInteger.valueOf(left.at(env));
                BigInteger b = BigInteger.valueOf(right.at(env));
                boolean an = a.signum() != 0;
                boolean bn = b.signum() != 0;
                int c = a.compareTo(b);
                BigInteger most = BigInteger.TEN.pow(12);
                BigInteger value = switch (sign) {
                    case "or" -> bit(an || bn);
                    case "and" -> bit(an && bn);
                    case "<" -> bit(c < 0);
                    case "<=" -> bit(c <= 0);
                    case "=" -> bit(c == 0);
                    case "<>" -> bit(c != 0);
                    case ">=" -> bit(c >= 0);
                    case ">" -> bit(c > 0);
                    case "+" -> a.add(b);
                    case "-" -> a.subtract(b);
                    case "*" -> a.multiply(b);
                    default -> {
                        if (!bn) {
                            throw new Mistake();
                        }
                        yield a.divide(b);
                    }
                };
                if (value.abs().compareTo(most) > 0) {
                    throw new Mistake();
                }
                return value.longValue();
            };
        }

        private static BigInteger bit(boolean so) {
            return so ? BigInteger.ONE : BigInteger.ZERO;
        }
    }

    private record Entry(int row, int latch, boolean could, int struck) {
    }

    private final StringBuilder tape = new StringBuilder();
    private Told told = new Told();
    private State s = new State();
    private State image;
    private final List<State> undos = new ArrayList<>();
    private final List<Entry> notes = new ArrayList<>();
    private int knownBy = -1;
    private int fault;
    private int place = -1;

    private int latches() {
        return told.names.size();
    }

    private int rows() {
        return 1 << latches();
    }

    private boolean isLatch(int latch) {
        return latch >= 0 && latch < latches();
    }

    private boolean isRow(int row) {
        return row >= 0 && row < rows();
    }

    private boolean leansWell(int row, int latch) {
        Node lean = told.leans.get(latch);
        return lean == null || lean.at(new Env(null, row, latch)) == 1;
    }

    private boolean moves(int row, int latch) {
        return leansWell(row, latch) && (s.sealed >> latch & 1) == 0;
    }

    long feed(int... five) {
        if (tape.length() > 680) {
            return -1;
        }
        for (int number : five) {
            for (int i = 3; i >= 0; i--) {
                tape.append((char) (number >> 8 * i & 255));
            }
        }
        return tape.length();
    }

    long text(int n) {
        if (n < 0 || n > tape.length()) {
            return -2;
        }
        String text = tape.substring(0, n);
        tape.setLength(0);
        fault = 0;
        place = -1;
        Told read;
        try {
            read = new Parser(text).text();
        } catch (Fault f) {
            fault = f.kind;
            place = f.place;
            return -1;
        }
        told = read;
        s = new State();
        for (int j = 0; j < latches(); j++) {
            s.row += told.ups.get(j) << j;
        }
        s.number = told.seed == null ? 0 : told.seed;
        notes.clear();
        knownBy = -1;
        image = null;
        undos.clear();
        return told.lines;
    }

    long fault(int what) {
        return what == 0 ? fault : what == 1 ? place : -1;
    }

    long named(int letters) {
        for (int j = 0; j < latches(); j++) {
            if (Bench.letters(told.names.get(j)) == letters) {
                return j;
            }
        }
        return -1;
    }

    long latch(int latch, int what) {
        if (!isLatch(latch)) {
            return IOOBE;
        }
        return switch (what) {
            case 0 -> s.row >> latch & 1;
            case 1 -> s.sealed >> latch & 1;
            case 2 -> moves(s.row, latch) ? 1 : 0;
            case 3 -> s.worn[latch];
            default -> NSEE;
        };
    }

    long row(int what) {
        int can = 0;
        for (int j = 0; j < latches(); j++) {
            can += moves(s.row, j) ? 1 << j : 0;
        }
        return what == 0 ? s.row : what == 1 ? s.sealed : what == 2 ? can : -1;
    }

    long could(int row, int latch) {
        if (!isRow(row) || !isLatch(latch)) {
            return -1;
        }
        return leansWell(row, latch) ? 1 : 0;
    }

    private Long value(State at, String law, int latch) {
        Node e = told.laws.get(law);
        if (e == null) {
            return null;
        }
        try {
            return e.at(new Env(at, at.row, latch));
        } catch (Mistake m) {
            return null;
        }
    }

    long law(int what, int latch) {
        if (what < 0 || what > 2 || !isLatch(latch)) {
            return Long.MIN_VALUE;
        }
        Long value = value(s, List.of("effort", "seal", "eat").get(what), latch);
        return value == null ? Long.MIN_VALUE : value;
    }

    private static long cut(Long value, long most, long without) {
        return value == null ? without : value < 0 ? 0 : value > most ? most : value;
    }

    private boolean pushed(State at, int latch, boolean draws, int tried) {
        boolean leans = tried == 1 || leansWell(at.row, latch);
        if (!leans || (at.sealed >> latch & 1) == 1) {
            return false;
        }
        long more = cut(value(at, "effort", latch), 999, 1);
        at.row ^= 1 << latch;
        at.effort = (int) Math.min(99999L, at.effort + more);
        at.worn[latch] = Math.min(999, at.worn[latch] + 1);
        if (tried == 0) {
            return true;
        }
        Long seal = value(at, "seal", latch);
        long eat = cut(value(at, "eat", latch), 100, told.rust == null ? 0 : told.rust);
        boolean sealed = seal != null && seal != 0;
        if (!draws) {
            sealed |= eat >= 50;
        } else if (eat == 100) {
            sealed = true;
        } else if (eat != 0) {
            BigInteger next = BigInteger.valueOf(at.number).multiply(BigInteger.valueOf(1103515245))
                    .add(BigInteger.valueOf(12345)).mod(BigInteger.ONE.shiftLeft(31));
            at.number = next.longValue();
            sealed |= next.shiftRight(16).longValue() % 100 < eat;
        }
        if (sealed) {
            at.sealed |= 1 << latch;
        }
        return true;
    }

    private void minute(State at, boolean draws, int tried, int i) {
        if (tried != 3 && told.oils.contains(at.minute)) {
            at.sealed = 0;
        }
        for (int[] push : told.pushes) {
            if (push[1] == at.minute && !(tried == 2 && push[0] == i)) {
                for (int k = 0; k < (tried == 4 ? 2 : 1); k++) {
                    at.vain += pushed(at, push[0], draws, tried) ? 0 : 1;
                }
            }
        }
        at.minute++;
    }

    private State after(State from, int n, boolean draws, int tried, int i) {
        State at = from.copy();
        for (int k = 0; k < n; k++) {
            minute(at, draws, tried, i);
        }
        return at;
    }

    private void remember() {
        undos.add(s.copy());
        if (undos.size() > 20) {
            undos.remove(0);
        }
    }

    long push(int latch) {
        if (!isLatch(latch)) {
            return -1;
        }
        if (!moves(s.row, latch)) {
            return -2;
        }
        remember();
        pushed(s, latch, false, -1);
        return Integer.bitCount(s.row);
    }

    long force(int latch) {
        if (!isLatch(latch)) {
            return -1;
        }
        remember();
        s.row ^= 1 << latch;
        return s.row >> latch & 1;
    }

    long seal(int latch) {
        if (!isLatch(latch)) {
            return -1;
        }
        remember();
        s.sealed ^= 1 << latch;
        return s.sealed >> latch & 1;
    }

    long go(int n) {
        if (n < 0 || n > 200 || s.minute + n > 9000) {
            return -1;
        }
        if (n > 0) {
            undos.clear();
        }
        s = after(s, n, true, -1, -1);
        return s.minute;
    }

    long ahead(int n, int what) {
        if (n < 0 || n > 200 || what < 0 || what > 4) {
            return -1;
        }
        State at = after(s, n, false, -1, -1);
        return new int[] {Integer.bitCount(at.row), at.effort - s.effort, at.vain - s.vain, Integer.bitCount(at.sealed),
            at.row}[what];
    }

    long when(int latch) {
        if (!isLatch(latch)) {
            return -1;
        }
        State at = s.copy();
        for (int k = 1; k <= 199; k++) {
            minute(at, false, -1, -1);
            if ((at.row >> latch & 1) != (s.row >> latch & 1)) {
                return k;
            }
        }
        return -2;
    }

    /** Fewest moves from a row to each, -1 if none; past no barred row, without a still latch, some eased. */
    private int[] distances(int from, int barred, int still, int eased) {
        int[] d = new int[rows()];
        Arrays.fill(d, -1);
        d[from] = 0;
        boolean more = true;
        for (int far = 0; more; far++) {
            more = false;
            for (int r = 0; r < rows(); r++) {
                for (int j = 0; j < latches() && d[r] == far; j++) {
                    boolean can = (s.sealed >> j & 1) == 0 && ((eased >> j & 1) == 1 || leansWell(r, j));
                    int to = r ^ 1 << j;
                    if (can && j != still && to != barred && d[to] < 0) {
                        d[to] = far + 1;
                        more = true;
                    }
                }
            }
        }
        return d;
    }

    private int[] distances(int from) {
        return distances(from, -1, -1, 0);
    }

    long fewest(int row) {
        if (!isRow(row)) {
            return -1;
        }
        int d = distances(s.row)[row];
        return d < 0 ? -2 : d;
    }

    long first(int row) {
        if (!isRow(row)) {
            return -1;
        }
        int d = distances(s.row)[row];
        for (int j = 0; j < latches() && d > 0; j++) {
            if (moves(s.row, j) && distances(s.row ^ 1 << j)[row] == d - 1) {
                return j;
            }
        }
        return -2;
    }

    long ways(int row) {
        if (!isRow(row)) {
            return -1;
        }
        int d = distances(s.row)[row];
        BigInteger[] walks = new BigInteger[rows()];
        Arrays.fill(walks, BigInteger.ZERO);
        walks[s.row] = BigInteger.ONE;
        for (int k = 0; k < d; k++) {
            BigInteger[] next = new BigInteger[rows()];
            Arrays.fill(next, BigInteger.ZERO);
            for (int r = 0; r < rows(); r++) {
                for (int j = 0; j < latches() && walks[r].signum() > 0; j++) {
                    if (moves(r, j)) {
                        next[r ^ 1 << j] = next[r ^ 1 << j].add(walks[r]);
                    }
                }
            }
            walks = next;
        }
        return d < 0 ? 0 : walks[row].min(BigInteger.valueOf(1000000000)).longValue();
    }

    long reach() {
        return Arrays.stream(distances(s.row)).filter(d -> d >= 0).count();
    }

    long farthest(int what) {
        int[] d = distances(s.row);
        int far = Arrays.stream(d).max().getAsInt();
        int least = 0;
        while (d[least] != far) {
            least++;
        }
        return what == 0 ? far : what == 1 ? least : -1;
    }

    long wide() {
        int[] d = distances(s.row);
        int wide = 0;
        for (int r = 0; r < rows(); r++) {
            if (d[r] >= 0) {
                wide = Math.max(wide, Arrays.stream(distances(r)).max().getAsInt());
            }
        }
        return wide;
    }

    long parts() {
        int[][] d = new int[rows()][];
        for (int r = 0; r < rows(); r++) {
            d[r] = distances(r);
        }
        int parts = 0;
        for (int r = 0; r < rows(); r++) {
            boolean least = true;
            for (int q = 0; q < r; q++) {
                least &= d[r][q] < 0 || d[q][r] < 0;
            }
            parts += least ? 1 : 0;
        }
        return parts;
    }

    long past(int row, int k) {
        if (!isRow(row) || k < 0 || row == s.row) {
            return -1;
        }
        int[] d = distances(s.row);
        if (d[row] < 0) {
            return -1;
        }
        List<Integer> on = new ArrayList<>();
        for (int r = 0; r < rows(); r++) {
            if (r != row && r != s.row && distances(s.row, r, -1, 0)[row] < 0) {
                on.add(r);
            }
        }
        on.sort((a, b) -> d[a] - d[b]);
        return k < on.size() ? on.get(k) : -2;
    }

    long must(int row) {
        if (!isRow(row)) {
            return -1;
        }
        if (distances(s.row)[row] < 0) {
            return -2;
        }
        int must = 0;
        for (int j = 0; j < latches(); j++) {
            must += distances(s.row, -1, j, 0)[row] < 0 ? 1 << j : 0;
        }
        return must;
    }

    long free(int latch) {
        if (!isLatch(latch)) {
            return -1;
        }
        int[] d = distances(s.row);
        int best = -2;
        for (int r = 0; r < rows(); r++) {
            if (d[r] >= 0 && moves(r, latch) && (best < 0 || d[r] + 1 < best)) {
                best = d[r] + 1;
            }
        }
        return best;
    }

    long ease(int row) {
        if (!isRow(row)) {
            return -1;
        }
        int best = -2;
        for (int set = 0; set < rows(); set++) {
            boolean fewer = best < 0 || Integer.bitCount(set) < Integer.bitCount(best);
            if (fewer && distances(s.row, -1, -1, set)[row] >= 0) {
                best = set;
            }
        }
        return best;
    }

    private boolean wins(int row, Map<Integer, Boolean> memo) {
        if (!memo.containsKey(row)) {
            boolean wins = false;
            for (int j = 0; j < latches(); j++) {
                wins |= (row >> j & 1) == 0 && moves(row, j) && !wins(row | 1 << j, memo);
            }
            memo.put(row, wins);
        }
        return memo.get(row);
    }

    long game(int what) {
        Map<Integer, Boolean> memo = new HashMap<>();
        if (what == 0) {
            return wins(s.row, memo) ? 0 : 1;
        }
        for (int j = 0; j < latches() && what == 1; j++) {
            if ((s.row >> j & 1) == 0 && moves(s.row, j) && !wins(s.row | 1 << j, memo)) {
                return j;
            }
        }
        return what == 1 ? -2 : -1;
    }

    private static long least(BigInteger above, BigInteger below, int what) {
        BigInteger g = above.gcd(below);
        return (what == 0 ? above : below).divide(g).longValueExact();
    }

    private BigInteger[] odds(int from, int to, int n) {
        if (n == 0) {
            return new BigInteger[] {from == to ? BigInteger.ONE : BigInteger.ZERO, BigInteger.ONE};
        }
        BigInteger above = BigInteger.ZERO;
        BigInteger below = BigInteger.ONE;
        int choices = 0;
        for (int j = 0; j < latches(); j++) {
            if (moves(from, j)) {
                choices++;
                BigInteger[] o = odds(from ^ 1 << j, to, n - 1);
                above = above.multiply(o[1]).add(o[0].multiply(below));
                below = below.multiply(o[1]);
                BigInteger g = above.gcd(below);
                above = above.divide(g);
                below = below.divide(g);
            }
        }
        return choices == 0 ? odds(from, to, n - 1)
                : new BigInteger[] {above, below.multiply(BigInteger.valueOf(choices))};
    }

    long drunk(int row, int n, int what) {
        if (!isRow(row) || n < 0 || n > 5 || what < 0 || what > 1) {
            return -1;
        }
        BigInteger[] o = odds(s.row, row, n);
        return least(o[0], o[1], what);
    }

    long holds(int n, int what) {
        if (n < 0 || n > 6 || what < 0 || what > 1) {
            return -1;
        }
        int rust = told.rust == null ? 0 : told.rust;
        return least(BigInteger.valueOf(100 - rust).pow(n), BigInteger.valueOf(100).pow(n), what);
    }

    long note(int row, int latch, boolean could) {
        if (!isRow(row) || !isLatch(latch) || notes.size() == 24) {
            return -1;
        }
        notes.add(new Entry(row, latch, could, -1));
        return notes.size() - 1;
    }

    long strike(int note) {
        if (note < 0 || note >= notes.size() || notes.size() == 24) {
            return -1;
        }
        notes.add(new Entry(-1, -1, false, note));
        return notes.size() - 1;
    }

    long known(int n) {
        if (n < -1 || n > notes.size()) {
            return 0;
        }
        knownBy = n;
        return 1;
    }

    private int knownCount() {
        return knownBy < 0 ? notes.size() : knownBy;
    }

    private boolean counts(int i) {
        for (int j = i + 1; j < knownCount(); j++) {
            if (notes.get(j).struck == i && counts(j)) {
                return false;
            }
        }
        return true;
    }

    private static boolean lets(int leaning, int row) {
        int j = (leaning - 1) / 2;
        return leaning == 0 || (row >> j & 1) == (leaning % 2 == 1 ? 1 : 0);
    }

    private List<Integer> fitting(int latch) {
        List<Integer> fitting = new ArrayList<>();
        for (int leaning = 0; leaning <= 2 * latches(); leaning++) {
            boolean fits = leaning == 0 || (leaning - 1) / 2 != latch;
            for (int i = 0; i < knownCount(); i++) {
                Entry e = notes.get(i);
                fits &= e.latch != latch || !counts(i) || lets(leaning, e.row) == e.could;
            }
            if (fits) {
                fitting.add(leaning);
            }
        }
        return fitting;
    }

    long fits(int latch) {
        return isLatch(latch) ? fitting(latch).stream().mapToInt(l -> 1 << l).sum() : -1;
    }

    long ask(int latch, int what) {
        if (!isLatch(latch) || what < 0 || what > 1) {
            return -1;
        }
        List<Integer> fitting = fitting(latch);
        int best = 0;
        int fewest = 100;
        for (int r = 0; r < rows(); r++) {
            int row = r;
            int yes = (int) fitting.stream().filter(l -> lets(l, row)).count();
            int worst = Math.max(yes, fitting.size() - yes);
            if (worst < fewest) {
                fewest = worst;
                best = r;
            }
        }
        return what == 0 ? best : fewest;
    }

    long chance(int seed, int n, int latch) {
        if (seed < 0 || n < 1 || n > 99 || !isLatch(latch)) {
            return -1;
        }
        long number = seed;
        int times = 0;
        for (int k = 0; k < 10; k++) {
            State from = s.copy();
            from.number = number;
            State at = after(from, n, true, -1, -1);
            number = at.number;
            times += at.sealed >> latch & 1;
        }
        return times;
    }

    long tried(int what, int i, int n) {
        if (what < 0 || what > 4 || n < 0 || n > 200 || (what == 2 ? !isLatch(i) : i != 0)) {
            return -1;
        }
        return after(s, n, false, what, i).effort - s.effort;
    }

    long undo() {
        if (undos.isEmpty()) {
            return -1;
        }
        s = undos.remove(undos.size() - 1);
        return undos.size();
    }

    long keep() {
        image = s.copy();
        return s.minute;
    }

    long back() {
        if (image == null) {
            return -1;
        }
        s = image.copy();
        undos.clear();
        return s.minute;
    }

    long count(int what) {
        int[] counts = {latches(), told.leans.size(), told.pushes.size(), told.knots, s.minute, Integer.bitCount(s.row),
            Integer.bitCount(s.sealed), s.effort, s.vain, Arrays.stream(s.worn).sum(), notes.size(), knownCount(),
            undos.size()};
        return what < 0 || what > 12 ? -1 : counts[what];
    }
}
