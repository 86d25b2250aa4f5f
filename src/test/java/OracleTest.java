import java.util.ArrayList;
import java.util.List;
import java.util.Random;

/** Runs of drawn calls (the draws are the same each time) on the class and on the Oracle. */
public final class OracleTest {
    private static final String[] NAMES = {"a", "b", "c", "dd", "eee", "ffff", "ggggg", "hhhhhh"};
    private static final String[] LEAVES = {"worn", "place", "ups", "seals", "high", "tired", "minute"};
    private static final String[] SIGNS = {"+", "-", "*", "/", "*", "*"};
    private static final String[] COMPARISONS = {"<", "<=", "=", "<>", ">=", ">"};
    private static final String[] ODD = {";", "(", ")", "<", "=", ">", "up", "a", "b", "zz", "not", "and", "or", "1",
        "9", "10000", "latch", "lean", "as", "many", "law", "eat", "worn", "seal", "-", "abcdefg", "A", "\t", "oil",
        "rust", "seed", "push", "8", "101"};

    private final Random random;
    private final LeanLatches x = new LeanLatches();
    private final Oracle o = new Oracle();
    private final List<String> trail = new ArrayList<>();
    private int latches;
    private boolean failed;

    private OracleTest(long seed) {
        random = new Random(seed);
    }

    public static void main(String[] args) {
        int runs = args.length > 0 ? Integer.parseInt(args[0]) : 1500;
        int first = args.length > 1 ? Integer.parseInt(args[1]) : 0;
        int bad = 0;
        for (int run = first; run < first + runs && bad < 3; run++) {
            OracleTest t = new OracleTest(run);
            t.run();
            if (t.failed) {
                bad++;
                System.out.println("run " + run + ":");
                t.trail.forEach(System.out::println);
            }
        }
        Bench.due("runs that went otherwise", bad, 0);
        Bench.end("OracleTest, " + runs + " runs");
    }

    private void run() {
        for (int call = 0; call < 300 && !failed; call++) {
            if (call < 5 && x.fault(0) != 0 || call == 0 || pick(80) == 0) {
                tell();
            } else {
                one();
            }
        }
    }

    private int pick(int n) {
        return random.nextInt(n);
    }

    private String pick(String[] of) {
        return of[pick(of.length)];
    }

    private void tell() {
        String text = drawnText();
        if (pick(4) == 0) {
            text = spoilt(text);
        }
        if (text.length() > 690) {
            text = text.substring(0, 690);
        }
        check("TEXT " + text, 0, 0);
        for (int at = 0; at < text.length(); at += 20) {
            int[] five = new int[5];
            for (int i = 0; i < 20; i++) {
                five[i / 4] |= (at + i < text.length() ? text.charAt(at + i) : ' ') << 24 - 8 * (i % 4);
            }
            check("feed", x.feed(five[0], five[1], five[2], five[3], five[4]), o.feed(five));
        }
        int n = text.length();
        check("text(" + n + ")", x.text(n), o.text(n));
        check("fault(0)", x.fault(0), o.fault(0));
        check("fault(1)", x.fault(1), o.fault(1));
        for (int what = 0; what < 13; what++) {
            check("count(" + what + ")", x.count(what), o.count(what));
        }
        latches = x.count(0);
        checkLeaning();
    }

    /** Each latch in each row; no latch leans on itself, so that what can be moved can be moved back at once. */
    private void checkLeaning() {
        for (int row = 0; row < 1 << latches && !failed; row++) {
            for (int latch = 0; latch < latches; latch++) {
                int could = x.could(row, latch);
                int back = x.could(row ^ 1 << latch, latch);
                if (could != o.could(row, latch) || could != back) {
                    check("could(" + row + ", " + latch + ")", could, o.could(row, latch));
                    check("could(" + (row ^ 1 << latch) + ", " + latch + ")", back, could);
                }
            }
        }
    }

    private String spoilt(String text) {
        int at = pick(text.length() + 1);
        int to = Math.min(text.length(), at + pick(3));
        return text.substring(0, at) + (pick(2) == 0 ? " " : "") + pick(ODD) + (pick(2) == 0 ? " " : "")
            + text.substring(to);
    }

    private String drawnText() {
        StringBuilder text = new StringBuilder();
        int n = pick(4) == 0 ? pick(9) : 2 + pick(4);
        int late = pick(3) == 0 ? pick(n + 1) : n;
        for (int j = 0; j < late; j++) {
            text.append("latch ").append(NAMES[j]).append(' ').append(pick(2)).append(';');
        }
        int shape = pick(5);
        text.append(shape == 0 ? rings(late) : shape == 1 ? chain(late) : drawnLeans(late));
        for (int j = late; j < n; j++) {
            text.append("latch ").append(NAMES[j]).append(' ').append(pick(2)).append(';');
        }
        int pushes = n == 0 ? 0 : pick(17);
        for (int k = 0; k < pushes; k++) {
            text.append("push ").append(NAMES[pick(n)]).append(' ').append(pick(30)).append(';');
        }
        for (int k = pick(4); k > 0; k--) {
            text.append("oil ").append(pick(30)).append(';');
        }
        if (pick(2) == 0) {
            text.append("rust ").append(pick(6) == 0 ? 100 : pick(101)).append(';');
        }
        if (pick(2) == 0) {
            text.append("seed ").append(pick(100000)).append(';');
        }
        for (String law : new String[] {"effort", "seal", "eat"}) {
            if (pick(2) == 0) {
                text.append("law ").append(law).append(' ').append(expression(3)).append(';');
            }
        }
        return text.toString();
    }

    private String rings(int n) {
        StringBuilder leans = new StringBuilder();
        for (int j = 1; j < n; j++) {
            leans.append("lean ").append(NAMES[j]).append(" up ").append(NAMES[j - 1]);
            for (int i = 0; i < j - 1; i++) {
                leans.append(" and down ").append(NAMES[i]);
            }
            leans.append(';');
        }
        return leans.toString();
    }

    /** Each by many, and as one told ahead. */
    private String chain(int n) {
        StringBuilder leans = new StringBuilder();
        for (int j = 0; j < n; j++) {
            leans.append("lean ").append(NAMES[j]).append(pick(3) == 0 ? " not many " : " many ").append(pick(4));
            if (j > 0 && pick(4) > 0) {
                leans.append(pick(2) == 0 ? " and " : " or ").append(pick(3) == 0 ? "not as " : "as ");
                leans.append(NAMES[pick(j)]);
            }
            leans.append(';');
        }
        return leans.toString();
    }

    private String drawnLeans(int n) {
        StringBuilder leans = new StringBuilder();
        for (int j = 0; j < n; j++) {
            int latch = pick(2) == 0 ? j : pick(n);
            if (pick(4) > 0 && leans.indexOf("lean " + NAMES[latch] + " ") < 0) {
                leans.append("lean ").append(NAMES[latch]).append(' ').append(lean(latch, n, 2)).append(';');
            }
        }
        return leans.toString();
    }

    private String lean(int latch, int n, int depth) {
        int kind = depth == 0 ? 4 + pick(5) : pick(9);
        String a = depth == 0 ? "" : lean(latch, n, depth - 1);
        String b = depth == 0 ? "" : lean(latch, n, depth - 1);
        int other = pick(20) == 0 ? latch : (latch + 1 + pick(Math.max(1, n - 1))) % Math.max(1, n);
        return switch (kind) {
            case 0 -> a + " or " + b;
            case 1 -> a + " and " + b;
            case 2 -> "not " + a;
            case 3 -> "(" + a + " or " + b + ")";
            case 4 -> "many " + pick(4);
            case 5 -> pick(2) == 0 ? "as " + NAMES[other] : "up " + NAMES[other];
            case 6 -> "down " + NAMES[other];
            default -> "up " + NAMES[other];
        };
    }

    private String expression(int depth) {
        if (depth == 0 || pick(4) == 0) {
            int most = pick(2) == 0 ? 10 : pick(3) == 0 ? 10000 : 101;
            return pick(3) == 0 ? "" + pick(most) : pick(LEAVES);
        }
        String a = expression(depth - 1);
        String b = expression(depth - 1);
        return switch (pick(8)) {
            case 0 -> a + " and " + b;
            case 1 -> a + " or " + b;
            case 2 -> "(not " + a + ")";
            case 3 -> "(" + a + pick(COMPARISONS) + b + ")";
            case 4 -> "(" + a + pick(SIGNS) + b + ")";
            default -> a + " " + pick(SIGNS) + " " + b;
        };
    }

    private int latch() {
        return pick(25) == 0 ? pick(12) - 2 : pick(Math.max(1, latches));
    }

    private int row() {
        if (pick(4) == 0) {
            return x.row(0) ^ 1 << pick(8);
        }
        return pick(40) == 0 ? pick(300) - 2 : pick(1 << latches);
    }

    private int upTo(int most) {
        return pick(12) == 0 ? pick(2) == 0 ? -1 - pick(3) : most + 1 + pick(3) : pick(most + 1);
    }

    private void check(String call, long got, long want) {
        trail.add("  " + call + " => " + got);
        if (got != want) {
            failed = true;
            trail.add("  BUT DUE IS " + want);
        }
    }

    private long thrown(int latch, int what) {
        try {
            return x.latch(latch, what);
        } catch (IndexOutOfBoundsException e) {
            return Oracle.IOOBE;
        } catch (java.util.NoSuchElementException e) {
            return Oracle.NSEE;
        }
    }

    private void one() {
        int latch = latch();
        int row = row();
        String l = "(" + latch + ")";
        String r = "(" + row + ")";
        switch (pick(46)) {
            case 0, 41 -> check("push" + l, x.push(latch), o.push(latch));
            case 1 -> check("force" + l, x.force(latch), o.force(latch));
            case 2 -> check("seal" + l, x.seal(latch), o.seal(latch));
            case 3, 42, 43 -> {
                int n = pick(20) == 0 ? upTo(200) : pick(3);
                check("go(" + n + ")", x.go(n), o.go(n));
            }
            case 4 -> {
                int n = pick(4) == 0 ? upTo(200) : pick(12);
                int what = upTo(4);
                check("ahead(" + n + ", " + what + ")", x.ahead(n, what), o.ahead(n, what));
            }
            case 5 -> check("when" + l, x.when(latch), o.when(latch));
            case 6 -> check("fewest" + r, x.fewest(row), o.fewest(row));
            case 7 -> check("first" + r, x.first(row), o.first(row));
            case 8 -> check("ways" + r, x.ways(row), o.ways(row));
            case 9 -> check("reach()", x.reach(), o.reach());
            case 10 -> {
                int what = upTo(1);
                check("farthest(" + what + ")", x.farthest(what), o.farthest(what));
            }
            case 11 -> {
                if (latches < 7 || pick(10) == 0) {
                    check("wide()", x.wide(), o.wide());
                }
            }
            case 12 -> {
                if (latches < 7 || pick(10) == 0) {
                    check("parts()", x.parts(), o.parts());
                }
            }
            case 13, 44 -> {
                int k = upTo(4);
                check("past(" + row + ", " + k + ")", x.past(row, k), o.past(row, k));
            }
            case 14 -> check("must" + r, x.must(row), o.must(row));
            case 15 -> check("free" + l, x.free(latch), o.free(latch));
            case 16 -> {
                if (latches < 7 || pick(10) == 0) {
                    check("ease" + r, x.ease(row), o.ease(row));
                }
            }
            case 17 -> {
                int what = upTo(1);
                check("game(" + what + ")", x.game(what), o.game(what));
            }
            case 18 -> {
                int n = upTo(5);
                int what = upTo(1);
                check("drunk(" + row + ", " + n + ", " + what + ")", x.drunk(row, n, what), o.drunk(row, n, what));
            }
            case 19 -> {
                int n = upTo(6);
                int what = upTo(1);
                check("holds(" + n + ", " + what + ")", x.holds(n, what), o.holds(n, what));
            }
            case 20, 45 -> {
                boolean could = pick(2) == 0;
                check("note(" + row + ", " + latch + ", " + could + ")", x.note(row, latch, could),
                    o.note(row, latch, could));
            }
            default -> other(latch, row);
        }
    }

    private void other(int latch, int row) {
        int what = upTo(3);
        switch (pick(20)) {
            case 0 -> {
                int note = upTo(Math.max(3, x.count(10)));
                check("strike(" + note + ")", x.strike(note), o.strike(note));
            }
            case 1 -> {
                int n = pick(2) == 0 ? -1 : upTo(Math.max(3, x.count(10)));
                check("known(" + n + ")", x.known(n) ? 1 : 0, o.known(n));
            }
            case 2, 3 -> check("fits(" + latch + ")", x.fits(latch), o.fits(latch));
            case 4, 5 -> check("ask(" + latch + ", " + what % 2 + ")", x.ask(latch, what % 2), o.ask(latch, what % 2));
            case 6 -> {
                int seed = pick(5) == 0 ? random.nextInt() : pick(2) == 0 ? Integer.MAX_VALUE : pick(1000);
                int n = pick(2) == 0 ? upTo(99) : 1 + pick(9);
                check("chance(" + seed + ", " + n + ", " + latch + ")", x.chance(seed, n, latch),
                    o.chance(seed, n, latch));
            }
            case 7, 8 -> {
                int kind = upTo(4);
                int i = kind == 2 || pick(9) == 0 ? latch : 0;
                int n = pick(3) == 0 ? upTo(200) : pick(12);
                check("tried(" + kind + ", " + i + ", " + n + ")", x.tried(kind, i, n), o.tried(kind, i, n));
            }
            case 9 -> check("undo()", x.undo(), o.undo());
            case 10 -> check("keep()", x.keep(), o.keep());
            case 11 -> check("back()", x.back(), o.back());
            case 12, 13 -> {
                int which = upTo(12);
                check("count(" + which + ")", x.count(which), o.count(which));
            }
            case 14 -> check("latch(" + latch + ", " + what + ")", thrown(latch, what), o.latch(latch, what));
            case 15 -> check("row(" + what + ")", x.row(what), o.row(what));
            case 16, 17 -> check("could(" + row + ", " + latch + ")", x.could(row, latch), o.could(row, latch));
            case 18 -> check("law(" + what + ", " + latch + ")", x.law(what, latch), o.law(what, latch));
            default -> {
                int letters = Bench.letters(pick(NAMES));
                check("named(" + letters + ")", x.named(letters), o.named(letters));
            }
        }
    }
}
