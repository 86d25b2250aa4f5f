import java.util.ArrayList;
import java.util.List;
import java.util.function.Consumer;
import java.util.function.ToLongFunction;

/**
 * Calls that only ask, and calls that are refused, with arguments at and far beyond all edges: none changes
 * anything, and none throws but latch(). Each object is used for at most 512 calls.
 */
public final class RefusalsTest {
    private static final int[] EDGES = {Integer.MIN_VALUE, -3, -2, -1, 0, 1, 2, 3, 4, 5, 6, 7, 8, 12, 13, 23, 24, 25, 99,
        100, 199, 200, 201, 255, 256, 700, 701, 1 << 30, Integer.MAX_VALUE};
    private static final int[] FEW = {Integer.MIN_VALUE, -1, 0, 1, 2, 4, 5, 6, 8, 99, 100, 200, 201, 255, 256,
        Integer.MAX_VALUE};
    private static final int A_TIME = 150;

    /** A call with three numbers; true, if it may have changed something. */
    private interface Call {
        boolean on(LeanLatches x, int a, int b, int c);
    }

    public static void main(String[] args) {
        List<Consumer<LeanLatches>> states = List.of(x -> { }, RefusalsTest::inMidRun, RefusalsTest::full,
            RefusalsTest::atTheEnd, RefusalsTest::free);
        for (Consumer<LeanLatches> state : states) {
            askings(state);
            refusals(state);
            oneBehindAnother(state);
        }
        Bench.end("RefusalsTest");
    }

    private static void inMidRun(LeanLatches x) {
        Bench.tell(x, "latch a 0;latch b 1;latch c 0;lean b up a;lean c as b or many 1;push a 0;push b 1;push c 1;push a 4;"
            + "oil 5;rust 40;seed 5;law effort worn+2;law eat 30+seals*9;law seal worn>3;");
        x.go(2);
        x.note(5, 1, true);
        x.note(0, 2, false);
        x.strike(1);
        x.known(2);
        x.keep();
        x.force(0);
        x.push(2);
        x.seal(1);
        Bench.feed(x, "oil 7;");
        x.text(99);
    }

    private static void full(LeanLatches x) {
        Bench.tell(x, Bench.latches(8, 1) + "push a 9;push b 9;oil 8;rust 100;");
        for (int i = 0; i < 24; i++) {
            x.note(i, i % 8, true);
        }
        x.keep();
        for (int i = 0; i < 21; i++) {
            x.seal(i % 8);
        }
        for (int i = 0; i < 35; i++) {
            x.feed(0x6f696c20, 0x313b7275, 0x73742031, 0x3b202020, i);
        }
    }

    private static void free(LeanLatches x) {
        Bench.tell(x, "latch a 0;latch b 0;latch c 0;lean b many 0;push a 1;push c 3;rust 60;");
    }

    private static void atTheEnd(LeanLatches x) {
        Bench.tell(x, "latch a 0;lean a many 1;law eat 1/0;");
        for (int i = 0; i < 45; i++) {
            x.go(200);
        }
        Bench.tell(x, "latch $");
        x.keep();
    }

    /** All that can be seen: first without changing anything, then what was kept to be undone, the IMAGE, the TAPE. */
    private static List<Long> seen(LeanLatches x) {
        List<Long> seen = new ArrayList<>();
        for (int what = 0; what < 13; what++) {
            seen.add((long) x.count(what));
        }
        for (int what = 0; what < 3; what++) {
            seen.add((long) x.row(what));
            seen.add(x.law(what, 0));
            seen.add((long) x.fault(what));
            seen.add((long) x.could(what, what));
        }
        for (int latch = 0; latch < x.count(0); latch++) {
            seen.add((long) x.latch(latch, 3));
            seen.add((long) x.fits(latch));
            seen.add((long) x.when(latch));
            seen.add((long) x.chance(77, 30, latch));
        }
        for (int what = 0; what < 5; what++) {
            seen.add((long) x.ahead(30, what));
            seen.add((long) x.tried(what, 0, 30));
        }
        seen.add(x.holds(3, 0));
        seen.add((long) x.reach());
        seen.add((long) x.parts());
        seen.add((long) x.named(1 << 25));
        for (int i = 0; i < 21; i++) {
            seen.add((long) x.undo());
            seen.add((long) x.row(0) << 20 | x.row(1));
        }
        seen.add((long) x.go(6));
        seen.add((long) x.row(1));
        seen.add((long) x.back());
        for (int what = 0; what < 13; what++) {
            seen.add((long) x.count(what));
        }
        seen.add((long) x.go(6));
        seen.add((long) x.row(1));
        seen.add((long) x.feed(0x20202020, 0x20202020, 0x20202020, 0x20202020, 0x20202020));
        seen.add((long) x.text(20));
        seen.add((long) x.text(0));
        return seen;
    }

    private static LeanLatches made(Consumer<LeanLatches> state) {
        LeanLatches x = new LeanLatches();
        state.accept(x);
        return x;
    }

    /** A call that asks, so many times on one object. */
    private static void changesNothing(String name, Consumer<LeanLatches> state, Call call, int[]... of) {
        changesNothing(A_TIME, name, state, call, of);
    }

    /** A call that may be refused or not: each time on an object of its own. */
    private static void refused(String name, Consumer<LeanLatches> state, Call call, int[]... of) {
        changesNothing(1, name, state, call, of);
    }

    /** Makes a call with all these; then all is to be seen as without them. */
    private static void changesNothing(int aTime, String name, Consumer<LeanLatches> state, Call call, int[]... of) {
        int[] none = {0};
        int[] bs = of.length > 1 ? of[1] : none;
        int[] cs = of.length > 2 ? of[2] : none;
        List<Long> due = seen(made(state));
        LeanLatches x = made(state);
        int calls = 0;
        for (int a : of.length > 0 ? of[0] : none) {
            for (int b : bs) {
                for (int c : cs) {
                    boolean changed = madeOf(name + ": " + a + ", " + b + ", " + c, call, x, a, b, c);
                    calls++;
                    if (!changed && calls >= aTime) {
                        compare(name, seen(x), due);
                    }
                    if (changed || calls >= aTime) {
                        x = made(state);
                        calls = 0;
                    }
                }
            }
        }
        compare(name, seen(x), due);
    }

    private static boolean madeOf(String told, Call call, LeanLatches x, int a, int b, int c) {
        try {
            return call.on(x, a, b, c);
        } catch (RuntimeException e) {
            Bench.due(told + " threw " + e, 1, 0);
            return false;
        }
    }

    private static void compare(String name, List<Long> got, List<Long> due) {
        Bench.due(name + ": how much is to be seen", got.size(), due.size());
        for (int i = 0; i < due.size() && i < got.size(); i++) {
            Bench.due(name + ": what is seen " + i + "th behind it", got.get(i), due.get(i));
        }
    }

    private static boolean asked(long answer) {
        return false;
    }

    /** latch() may throw what the document names, and nothing else. */
    private static boolean askedOfLatch(LeanLatches x, int latch, int what) {
        boolean such = latch >= 0 && latch < x.count(0);
        int due = !such ? 1 : what < 0 || what > 3 ? 2 : 0;
        Bench.due("latch(" + latch + ", " + what + ") throws", Bench.thrown(x, latch, what), due);
        return false;
    }

    private static void askings(Consumer<LeanLatches> state) {
        Bench.says("calls that ask change nothing");
        changesNothing("fault", state, (x, a, b, c) -> asked(x.fault(a)), EDGES);
        changesNothing("named", state, (x, a, b, c) -> asked(x.named(a)), EDGES);
        changesNothing("latch", state, (x, a, b, c) -> askedOfLatch(x, a, b), FEW, FEW);
        changesNothing("row", state, (x, a, b, c) -> asked(x.row(a)), EDGES);
        changesNothing("could", state, (x, a, b, c) -> asked(x.could(a, b)), EDGES, FEW);
        changesNothing("law", state, (x, a, b, c) -> asked(x.law(a, b)), EDGES, FEW);
        changesNothing("ahead", state, (x, a, b, c) -> asked(x.ahead(a, b)), EDGES, FEW);
        changesNothing("when", state, (x, a, b, c) -> asked(x.when(a)), EDGES);
        changesNothing("fewest", state, (x, a, b, c) -> asked(x.fewest(a)), EDGES);
        changesNothing("first", state, (x, a, b, c) -> asked(x.first(a)), EDGES);
        changesNothing("ways", state, (x, a, b, c) -> asked(x.ways(a)), EDGES);
        changesNothing("reach", state, (x, a, b, c) -> asked(x.reach()));
        changesNothing("farthest", state, (x, a, b, c) -> asked(x.farthest(a)), EDGES);
        changesNothing("wide", state, (x, a, b, c) -> asked(x.wide()));
        changesNothing("parts", state, (x, a, b, c) -> asked(x.parts()));
        changesNothing("past", state, (x, a, b, c) -> asked(x.past(a, b)), EDGES, FEW);
        changesNothing("must", state, (x, a, b, c) -> asked(x.must(a)), EDGES);
        changesNothing("free", state, (x, a, b, c) -> asked(x.free(a)), EDGES);
        changesNothing("ease", state, (x, a, b, c) -> asked(x.ease(a)), EDGES);
        changesNothing("game", state, (x, a, b, c) -> asked(x.game(a)), EDGES);
        changesNothing("drunk", state, (x, a, b, c) -> asked(x.drunk(a, b, c)), FEW, FEW, FEW);
        changesNothing("holds", state, (x, a, b, c) -> asked(x.holds(a, b)), EDGES, FEW);
        changesNothing("fits", state, (x, a, b, c) -> asked(x.fits(a)), EDGES);
        changesNothing("ask", state, (x, a, b, c) -> asked(x.ask(a, b)), EDGES, FEW);
        changesNothing("chance", state, (x, a, b, c) -> asked(x.chance(a, b, c)), FEW, FEW, FEW);
        changesNothing("tried", state, (x, a, b, c) -> asked(x.tried(a, b, c)), FEW, FEW, FEW);
        changesNothing("count", state, (x, a, b, c) -> asked(x.count(a)), EDGES);
    }

    private static void refusals(Consumer<LeanLatches> state) {
        Bench.says("calls that are refused change nothing");
        refused("feed", state, (x, a, b, c) -> x.feed(a, b, c, a, b) != -1, FEW, FEW);
        refused("text", state, (x, a, b, c) -> x.text(a) != -2, EDGES);
        refused("push", state, (x, a, b, c) -> x.push(a) >= 0, EDGES);
        refused("force", state, (x, a, b, c) -> x.force(a) >= 0, EDGES);
        refused("seal", state, (x, a, b, c) -> x.seal(a) >= 0, EDGES);
        refused("go", state, (x, a, b, c) -> x.go(a) >= 0 && a != 0, EDGES);
        refused("note", state, (x, a, b, c) -> x.note(a, b, c == 0) >= 0, EDGES, FEW);
        refused("strike", state, (x, a, b, c) -> x.strike(a) >= 0, EDGES);
        refused("known", state, (x, a, b, c) -> x.known(a), EDGES);
        refused("undo", state, (x, a, b, c) -> x.undo() >= 0);
        refused("back", state, (x, a, b, c) -> x.back() >= 0);
    }

    /** The calls that ask, with what may be asked of most doors. */
    private static List<ToLongFunction<LeanLatches>> questions() {
        List<ToLongFunction<LeanLatches>> all = new ArrayList<>(List.of(LeanLatches::reach, LeanLatches::wide,
            LeanLatches::parts, x -> x.count(7), x -> x.row(2), x -> x.law(0, 0), x -> x.could(3, 1), x -> x.ahead(9, 3),
            x -> x.ahead(9, 1), x -> x.when(0), x -> x.when(2), x -> x.farthest(0), x -> x.farthest(1), x -> x.free(2),
            x -> x.game(0), x -> x.game(1), x -> x.holds(3, 0), x -> x.fits(1), x -> x.ask(1, 0), x -> x.ask(1, 1),
            x -> x.chance(99, 9, 0), x -> x.chance(12345, 9, 1), x -> x.tried(2, 1, 9), x -> x.fault(1)));
        for (int i = 0; i < 5; i++) {
            int what = i;
            all.add(x -> x.tried(what, 0, 9));
        }
        for (int i = 0; i < 8; i++) {
            int row = i;
            all.addAll(List.of(x -> x.fewest(row), x -> x.first(row), x -> x.ways(row), x -> x.past(row, 0),
                x -> x.past(row, 1), x -> x.must(row), x -> x.ease(row), x -> x.drunk(row, 4, 0)));
        }
        return all;
    }

    private static void oneBehindAnother(Consumer<LeanLatches> state) {
        Bench.says("an answer doesn't hang on what was asked ahead of it");
        List<ToLongFunction<LeanLatches>> all = questions();
        for (int i = 0; i < all.size(); i++) {
            long due = all.get(i).applyAsLong(made(state));
            LeanLatches x = made(state);
            for (int j = 0; j < all.size(); j++) {
                all.get(j).applyAsLong(x);
                Bench.due("question " + i + " behind question " + j, all.get(i).applyAsLong(x), due);
            }
        }
    }
}
