/** Promises 16 to 29: which rows can be had, and how; the game, the drunken moves, the odds of rust. */
public final class PathsTest {
    private static final String RINGS = "latch a 1;latch b 1;latch c 1;latch d 1;"
        + "lean b up a;lean c up b and down a;lean d up c and down b and down a;";
    /** a can be moved while b or c is up, c while a or b is: all but the row of none hang together. */
    private static final String BEHIND_AS = "latch a 0;latch b 0;latch c 1;lean a many 1;lean c as a;lean b up a;";

    public static void main(String[] args) {
        rings();
        free();
        manyWays();
        shutIn();
        behindAs();
        sealed();
        easing();
        games();
        drunks();
        holding();
        wrongOnes();
        Bench.end("PathsTest");
    }

    private static void rings() {
        LeanLatches x = Bench.door(RINGS);
        Bench.due("fewest(0)", x.fewest(0), 10);
        Bench.due("fewest(15)", x.fewest(15), 0);
        Bench.due("first(0)", x.first(0), 1);
        Bench.due("first(14)", x.first(14), 0);
        Bench.due("first(15)", x.first(15), -2);
        Bench.due("ways(0)", x.ways(0), 1);
        Bench.due("ways(15)", x.ways(15), 1);
        Bench.due("reach", x.reach(), 16);
        Bench.due("farthest(0)", x.farthest(0), 10);
        Bench.due("farthest(1)", x.farthest(1), 0);
        Bench.due("wide", x.wide(), 15);
        Bench.due("parts", x.parts(), 1);
        int[] way = {13, 12, 4, 5, 7, 6, 2, 3, 1};
        for (int k = 0; k < way.length; k++) {
            Bench.due("past(0, " + k + ")", x.past(0, k), way[k]);
        }
        Bench.due("past(0, 9)", x.past(0, 9), -2);
        Bench.due("past(15, 0)", x.past(15, 0), -1);
        Bench.due("must(0)", x.must(0), 15);
        Bench.due("must(14)", x.must(14), 1);
        Bench.due("must(15)", x.must(15), 0);
        Bench.due("free(3)", x.free(3), 3);
        Bench.due("free(0)", x.free(0), 1);
    }

    private static void free() {
        LeanLatches x = Bench.door("latch a 0;latch b 0;latch c 0;latch d 0;latch e 0;latch f 0;latch g 0;latch h 0;");
        Bench.due("fewest(255)", x.fewest(255), 8);
        Bench.due("ways(255)", x.ways(255), 40320);
        Bench.due("ways(7)", x.ways(7), 6);
        Bench.due("first(255)", x.first(255), 0);
        Bench.due("first(192)", x.first(192), 6);
        Bench.due("reach", x.reach(), 256);
        Bench.due("farthest(1)", x.farthest(1), 255);
        Bench.due("wide", x.wide(), 8);
        Bench.due("parts", x.parts(), 1);
        Bench.due("past(255, 0)", x.past(255, 0), -2);
        Bench.due("past(1, 0)", x.past(1, 0), -2);
        Bench.due("must(129)", x.must(129), 129);
        Bench.due("ease(255)", x.ease(255), 0);
        Bench.due("game(0)", x.game(0), 1);
        Bench.due("drunk(1, 1, 1)", x.drunk(1, 1, 1), 8);
        Bench.due("drunk(0, 2, 1)", x.drunk(0, 2, 1), 8);
    }

    /** g can be moved while the six are up, h while g is up and the six are down: each time 720 ways. */
    private static void manyWays() {
        LeanLatches x = Bench.door("latch a 0;latch b 0;latch c 0;latch d 0;latch e 0;latch f 0;latch g 0;latch h 0;"
            + "lean g up a and up b and up c and up d and up e and up f;"
            + "lean h up g and down a and down b and down c and down d and down e and down f;");
        Bench.due("fewest(64)", x.fewest(64), 13);
        Bench.due("ways(64)", x.ways(64), 720 * 720);
        Bench.due("ways(192)", x.ways(192), 720 * 720);
        Bench.due("fewest(255)", x.fewest(255), 20);
        Bench.due("ways(255)", x.ways(255), 720 * 720 * 720);
        Bench.due("fewest(128)", x.fewest(128), 27);
        Bench.due("ways(128), 1000000000 at most", x.ways(128), 1000000000);
        Bench.due("past(128, 0)", x.past(128, 0), 63);
        Bench.due("past(128, 3)", x.past(128, 3), 192);
        Bench.due("past(128, 5)", x.past(128, 5), 191);
        Bench.due("past(128, 6)", x.past(128, 6), -2);
    }

    private static void shutIn() {
        LeanLatches x = Bench.door("latch a 0;latch b 0;lean a down b;lean b down a;");
        Bench.due("fewest(3)", x.fewest(3), -2);
        Bench.due("reach", x.reach(), 3);
        Bench.due("farthest(0)", x.farthest(0), 1);
        Bench.due("farthest(1), the least", x.farthest(1), 1);
        Bench.due("wide", x.wide(), 2);
        Bench.due("parts", x.parts(), 2);
        x.push(1);
        Bench.due("past(1, 0)", x.past(1, 0), 0);
        Bench.due("past(1, 1)", x.past(1, 1), -2);
        Bench.due("must(1)", x.must(1), 3);
        Bench.due("free(0)", x.free(0), 2);
    }

    private static void behindAs() {
        LeanLatches x = Bench.door(BEHIND_AS);
        Bench.due("could(0, 2)", x.could(0, 2), 0);
        Bench.due("could(4, 2)", x.could(4, 2), 0);
        Bench.due("could(5, 2)", x.could(5, 2), 1);
        Bench.due("fewest(0)", x.fewest(0), -2);
        Bench.due("reach", x.reach(), 7);
        Bench.due("fewest(1)", x.fewest(1), 2);
        Bench.due("ways(1)", x.ways(1), 1);
        Bench.due("fewest(2)", x.fewest(2), 4);
        Bench.due("ways(2)", x.ways(2), 3);
        Bench.due("parts", x.parts(), 2);
        Bench.due("past(2, 0)", x.past(2, 0), 5);
        Bench.due("past(2, 1)", x.past(2, 1), -2);
        Bench.due("must(2)", x.must(2), 7);
        Bench.due("farthest(0)", x.farthest(0), 4);
        Bench.due("farthest(1)", x.farthest(1), 2);
        Bench.due("wide", x.wide(), 4);
        x.force(2);
        Bench.due("from row 0", x.reach(), 1);
        Bench.due("row 4 can't be had", x.fewest(4), -2);
        Bench.due("wide of one alone", x.wide(), 0);
        Bench.due("parts are of all rows", x.parts(), 2);
        // Each can be moved while the other one is down.
        x = Bench.door("latch a 0;latch b 0;lean b not many 1;lean a as b;");
        Bench.due("parts by not many", x.parts(), 2);
        Bench.due("reach by not many", x.reach(), 3);
        Bench.due("wide by not many", x.wide(), 2);
        x.push(0);
        Bench.due("a has its way back", x.row(2), 1);
        Bench.due("fewest back", x.fewest(0), 1);
        Bench.due("past to the next", x.past(0, 0), -2);
    }

    private static void sealed() {
        LeanLatches x = Bench.door(RINGS);
        x.seal(1);
        Bench.due("fewest(0)", x.fewest(0), -2);
        Bench.due("first(0)", x.first(0), -2);
        Bench.due("ways(0)", x.ways(0), 0);
        Bench.due("past(0, 0)", x.past(0, 0), -1);
        Bench.due("must(0)", x.must(0), -2);
        Bench.due("free(1)", x.free(1), -2);
        Bench.due("free(3)", x.free(3), -2);
        Bench.due("reach", x.reach(), 4);
        Bench.due("farthest(0)", x.farthest(0), 3);
        Bench.due("farthest(1)", x.farthest(1), 11);
        Bench.due("wide", x.wide(), 3);
        // With b up: a line of a, c, a for each d; without: d only while c is up and a is down, a always.
        Bench.due("parts", x.parts(), 5);
        Bench.due("ease(0)", x.ease(0), -2);
        Bench.due("ease(14)", x.ease(14), 0);
        Bench.due("ease(7)", x.ease(7), 8);
    }

    private static void easing() {
        LeanLatches x = Bench.door("latch a 0;latch b 0;latch c 0;lean a up b;lean b up a;lean c up a and up b;");
        Bench.due("fewest(7)", x.fewest(7), -2);
        Bench.due("ease(0)", x.ease(0), 0);
        Bench.due("ease(7): a or b, the least", x.ease(7), 1);
        Bench.due("ease(4): a goes up and down again", x.ease(4), 1);
        Bench.due("ease(3)", x.ease(3), 1);
        Bench.due("ease(1)", x.ease(1), 1);
        Bench.due("ease(2)", x.ease(2), 1);
        // Who is as another one LEANS on all the same what that one was told.
        x = Bench.door("latch a 0;latch b 0;latch c 0;lean a up c and down c;lean b as a;");
        Bench.due("ease(1)", x.ease(1), 1);
        Bench.due("ease(2)", x.ease(2), 2);
        Bench.due("ease(3)", x.ease(3), 3);
        // a and b together are less as bits than c alone, but more of them.
        x = Bench.door("latch a 0;latch b 0;latch c 0;latch d 0;"
            + "lean a many 8;lean b as a;lean c as a;lean d up a and up b or up c;");
        Bench.due("the fewest first", x.ease(8), 4);
        x = Bench.door("latch a 0;latch b 0;lean a many 3;lean b as a;");
        Bench.due("ease(3) of all", x.ease(3), 3);
        x.seal(1);
        Bench.due("ease(3) of a sealed one", x.ease(3), -2);
    }

    private static void games() {
        LeanLatches x = Bench.door("latch a 0;latch b 0;latch c 1;");
        Bench.due("two to move", x.game(0), 1);
        Bench.due("he can't win", x.game(1), -2);
        x.seal(0);
        Bench.due("one to move", x.game(0), 0);
        Bench.due("it", x.game(1), 1);
        // Moving a shuts b in, moving b first leaves a: c is up and none moves it down.
        x = Bench.door("latch a 0;latch b 0;latch c 1;lean b down a;");
        Bench.due("who begins wins", x.game(0), 0);
        Bench.due("by a", x.game(1), 0);
        x = Bench.door("latch a 0;latch b 0;lean a down b;lean b up a or down a;");
        Bench.due("by b", x.game(1), 1);
        x = Bench.door("latch a 1;");
        Bench.due("none to move up", x.game(0), 1);
        Bench.due("game(2)", x.game(2), -1);
        Bench.due("game(-1)", x.game(-1), -1);
    }

    private static void drunks() {
        LeanLatches x = Bench.door("latch a 0;latch b 0;latch c 0;lean b up a;lean c up b;");
        Bench.due("n 0 above", x.drunk(0, 0, 0), 1);
        Bench.due("n 0 below", x.drunk(0, 0, 1), 1);
        Bench.due("n 0 to another", x.drunk(1, 0, 0), 0);
        Bench.due("in least terms", x.drunk(1, 0, 1), 1);
        Bench.due("n 1", x.drunk(1, 1, 1), 1);
        Bench.due("n 2 above", x.drunk(3, 2, 0), 1);
        Bench.due("n 2 below", x.drunk(3, 2, 1), 2);
        Bench.due("n 3 above", x.drunk(7, 3, 0), 1);
        Bench.due("n 3 below", x.drunk(7, 3, 1), 6);
        // To row 1 by three moves: by way of 0 (1/2), by way of 3 (1/2 times 1/3).
        Bench.due("two ways above", x.drunk(1, 3, 0), 2);
        Bench.due("two ways below", x.drunk(1, 3, 1), 3);
        x.seal(0);
        Bench.due("none can: none is", x.drunk(0, 5, 0), 1);
        Bench.due("none can: none is", x.drunk(1, 5, 0), 0);
    }

    private static void holding() {
        LeanLatches x = Bench.door("latch a 0;rust 30;law eat 99;");
        Bench.due("holds(0, 0)", x.holds(0, 0), 1);
        Bench.due("holds(0, 1)", x.holds(0, 1), 1);
        Bench.due("holds(1, 0)", x.holds(1, 0), 7);
        Bench.due("holds(1, 1)", x.holds(1, 1), 10);
        Bench.due("holds(6, 0)", x.holds(6, 0), 117649);
        Bench.due("holds(6, 1)", x.holds(6, 1), 1000000);
        x = Bench.door("rust 1;");
        Bench.due("holds(6, 1) of 1", x.holds(6, 1), 1000000000000L);
        Bench.due("holds(6, 0) of 1", x.holds(6, 0), 941480149401L);
        x = Bench.door("rust 100;");
        Bench.due("holds(0, 0) of 100", x.holds(0, 0), 1);
        Bench.due("holds(2, 0) of 100", x.holds(2, 0), 0);
        Bench.due("holds(2, 1) of 100", x.holds(2, 1), 1);
        Bench.due("holds(7, 0)", x.holds(7, 0), -1);
        Bench.due("holds(-1, 0)", x.holds(-1, 0), -1);
        Bench.due("holds(1, 2)", x.holds(1, 2), -1);
        Bench.due("holds(1, -1)", x.holds(1, -1), -1);
    }

    private static void wrongOnes() {
        LeanLatches x = Bench.door("latch a 0;latch b 1;");
        for (int row : new int[] {-1, 4, 256, Integer.MAX_VALUE, Integer.MIN_VALUE}) {
            Bench.due("fewest(" + row + ")", x.fewest(row), -1);
            Bench.due("first(" + row + ")", x.first(row), -1);
            Bench.due("ways(" + row + ")", x.ways(row), -1);
            Bench.due("past(" + row + ", 0)", x.past(row, 0), -1);
            Bench.due("must(" + row + ")", x.must(row), -1);
            Bench.due("ease(" + row + ")", x.ease(row), -1);
            Bench.due("drunk(" + row + ", 1, 0)", x.drunk(row, 1, 0), -1);
        }
        Bench.due("past(1, -1)", x.past(1, -1), -1);
        Bench.due("past below 0 to that of now", x.past(2, 0), -1);
        Bench.due("free(2)", x.free(2), -1);
        Bench.due("free(-1)", x.free(-1), -1);
        Bench.due("farthest(2)", x.farthest(2), -1);
        Bench.due("farthest(-1)", x.farthest(-1), -1);
        Bench.due("drunk(0, 6, 0)", x.drunk(0, 6, 0), -1);
        Bench.due("drunk(0, -1, 0)", x.drunk(0, -1, 0), -1);
        Bench.due("drunk(0, 1, 2)", x.drunk(0, 1, 2), -1);
        Bench.due("drunk(0, 1, -1)", x.drunk(0, 1, -1), -1);
    }
}
