/** The promises in their order: each edge that a promise's own sentences name, with a test of its own. */
public final class PromisesTest {
    private static final long ERROR = Long.MIN_VALUE;
    private static final String AB = "latch a 1;latch b 0;";
    private static final int BLANKS = 0x20202020;
    /** What is below 0 or beyond all that there may be. */
    private static final int[] FAR = {-1, -2, -200, Integer.MIN_VALUE, Integer.MAX_VALUE};

    public static void main(String[] args) {
        newObject();
        feed();
        textOfTheTape();
        textAnew();
        textWithFault();
        textRefused();
        fault();
        named();
        latch();
        row();
        could();
        law();
        push();
        force();
        seal();
        go();
        goRefused();
        ahead();
        when();
        fewestFirstWays();
        reachFarthest();
        wideParts();
        past();
        mustFreeEase();
        game();
        drunk();
        holds();
        note();
        strike();
        known();
        fits();
        ask();
        chance();
        tried();
        undo();
        keepBack();
        count();
        Bench.end("PromisesTest");
    }

    private static int[] and(int... more) {
        int[] all = java.util.Arrays.copyOf(FAR, FAR.length + more.length);
        System.arraycopy(more, 0, all, FAR.length, more.length);
        return all;
    }

    private static void newObject() {
        Bench.says("1 A new object: a TEXT without LINES");
        LeanLatches x = new LeanLatches();
        for (int what = 0; what <= 12; what++) {
            Bench.due("count(" + what + ")", x.count(what), 0);
        }
        Bench.due("row(0), row(1), row(2)", x.row(0) + x.row(1) + x.row(2), 0);
        Bench.due("latch(0, 0) throws", Bench.thrown(x, 0, 0), 1);
        Bench.due("could(0, 0)", x.could(0, 0), -1);
        Bench.due("fewest(0)", x.fewest(0), 0);
        Bench.due("fewest(1)", x.fewest(1), -1);
        Bench.due("ways(0)", x.ways(0), 1);
        Bench.due("reach()", x.reach(), 1);
        Bench.due("farthest(0)", x.farthest(0), 0);
        Bench.due("past(0, 0)", x.past(0, 0), -1);
        Bench.due("must(0)", x.must(0), 0);
        Bench.due("ease(0)", x.ease(0), 0);
        Bench.due("drunk(0, 5, 1)", x.drunk(0, 5, 1), 1);
        Bench.due("holds(6, 0)", x.holds(6, 0), 1);
        Bench.due("note(0, 0, true)", x.note(0, 0, true), -1);
        Bench.due("known(0)", x.known(0) ? 1 : 0, 1);
        Bench.due("known(1)", x.known(1) ? 1 : 0, 0);
        Bench.due("tried(1, 0, 200)", x.tried(1, 0, 200), 0);
        Bench.due("ahead(200, 4)", x.ahead(200, 4), 0);
        Bench.due("back()", x.back(), -1);
        Bench.due("undo()", x.undo(), -1);
        Bench.due("go(200)", x.go(200), 200);
        Bench.due("keep()", x.keep(), 200);
        Bench.says("1 A new object: an empty TAPE");
        Bench.due("text(1)", new LeanLatches().text(1), -2);
        Bench.due("text(0)", new LeanLatches().text(0), 0);
        Bench.due("feed", new LeanLatches().feed(0, 0, 0, 0, 0), 20);
    }

    private static LeanLatches fed(int times) {
        LeanLatches x = new LeanLatches();
        for (int i = 1; i <= times; i++) {
            Bench.due("feed " + i, x.feed(BLANKS, BLANKS, BLANKS, BLANKS, BLANKS), 20 * i);
        }
        return x;
    }

    private static void feed() {
        Bench.says("2 feed: NONE, and none come, if it would have more than 700");
        LeanLatches x = fed(35);
        Bench.due("a 36th", x.feed(1, 2, 3, 4, 5), -1);
        Bench.due("a 37th", x.feed(1, 2, 3, 4, 5), -1);
        Bench.due("text(701)", x.text(701), -2);
        Bench.due("text(700), all blanks", x.text(700), 0);
        Bench.due("feed, empty again", x.feed(BLANKS, BLANKS, BLANKS, BLANKS, BLANKS), 20);
        Bench.says("2 feed: behind the TAPE, four of each number, the highest first");
        x = new LeanLatches();
        x.feed(BLANKS, BLANKS, BLANKS, BLANKS, 0x20206f69);
        x.feed(0x6c203939, 0x3b727573, 0x74313030, 0x3b736565, 0x64393b20);
        Bench.due("text(40)", x.text(40), 3);
        Bench.due("holds(1, 0)", x.holds(1, 0), 0);
        Bench.says("2 feed: bytes, the highest of them, too");
        for (int place = 0; place < 20; place++) {
            int[] five = {BLANKS, BLANKS, BLANKS, BLANKS, BLANKS};
            five[place / 4] |= 255 << 24 - 8 * (place % 4);
            x.feed(five[0], five[1], five[2], five[3], five[4]);
            Bench.due("text(20)", x.text(20), -1);
            Bench.due("fault(1)", x.fault(1), place);
        }
    }

    private static void textOfTheTape() {
        Bench.says("3 text: the TAPE's first n bytes");
        LeanLatches x = new LeanLatches();
        Bench.feed(x, "oil 1;oil 2;");
        Bench.due("text(12)", x.text(12), 2);
        Bench.feed(x, "oil 1;oil 2;");
        Bench.due("text(6)", x.text(6), 1);
        Bench.feed(x, "oil 1;oil 2;");
        Bench.due("text(0), no LINES", x.text(0), 0);
        Bench.says("3 text: it is empty then");
        Bench.due("behind text(0)", x.text(1), -2);
        Bench.due("feed", Bench.feed(x, "oil 1;"), 20);
        Bench.due("text(6)", x.text(6), 1);
        Bench.due("behind text(6)", x.text(1), -2);
        Bench.feed(x, "$");
        Bench.due("text(20) with a FAULT", x.text(20), -1);
        Bench.due("behind a FAULT", x.text(1), -2);
        Bench.due("feed", Bench.feed(x, "oil 1;"), 20);
        Bench.says("3 text: as many bytes as the TAPE has, one more");
        Bench.due("text(21)", x.text(21), -2);
        Bench.due("text(20)", x.text(20), 1);
    }

    private static LeanLatches busy() {
        LeanLatches x = Bench.door(AB + "latch c 0;lean c many 1;push a 1;push c 1;push c 2;rust 60;seed 9;law effort 4;oil 9;");
        x.push(0);
        x.go(2);
        x.note(1, 0, true);
        x.strike(0);
        x.known(1);
        x.keep();
        x.force(1);
        return x;
    }

    private static void textAnew() {
        Bench.says("3 text: MINUTE 0, LATCHES as told, nothing WORN, SEALED, no EFFORT, NOTES");
        LeanLatches x = busy();
        Bench.due("text", Bench.tell(x, "latch q 1;latch r 0;push q 0;"), 3);
        int[] due = {2, 0, 1, 0, 0, 1, 0, 0, 0, 0, 0, 0, 0};
        for (int what = 0; what <= 12; what++) {
            Bench.due("count(" + what + ")", x.count(what), due[what]);
        }
        Bench.due("row(0)", x.row(0), 1);
        Bench.due("row(1)", x.row(1), 0);
        Bench.due("latch(0, 3)", x.latch(0, 3), 0);
        Bench.due("no rust any more", x.holds(1, 0), 1);
        Bench.due("no law any more", x.law(0, 0), ERROR);
        Bench.due("a name of before", x.named(Bench.letters("a")), -1);
        Bench.says("3 text: all KNOWN");
        x.note(0, 0, true);
        x.note(0, 0, true);
        Bench.due("count(11)", x.count(11), 2);
        Bench.says("3 text: no IMAGE, nothing to undo then");
        Bench.due("back()", x.back(), -1);
        Bench.due("undo()", x.undo(), -1);
        Bench.says("3 text: LATCHES as told, though fewer LINES are told than before");
        x = busy();
        Bench.due("text(0)", x.text(0), 0);
        Bench.due("count(0)", x.count(0), 0);
        Bench.due("row(0)", x.row(0), 0);
        Bench.due("back()", x.back(), -1);
        Bench.says("3 text: nothing of any TEXT ahead of it, however many there were");
        String much = Bench.latches(8, 1) + "lean a up b;lean b up c;lean c many 8;lean d many 8;push a 0;push b 0;oil 0;"
            + "rust 100;seed 5;law effort 9;law seal 8;law eat 7;";
        x = new LeanLatches();
        for (int time = 0; time < 3; time++) {
            Bench.due("much", Bench.tell(x, much), 20);
            Bench.due("much once more", Bench.tell(x, much), 20);
            Bench.due("with a FAULT", Bench.tell(x, much + "$"), -1);
            for (int i = 0; i < time; i++) {
                Bench.due("nothing", x.text(0), 0);
            }
            Bench.due("little", Bench.tell(x, "latch a 0;latch b 0;latch c 0;latch d 0;lean b as c;"), -1);
            Bench.due("little", Bench.tell(x, "latch a 0;latch b 0;latch c 0;latch d 0;lean a many 1;lean c as a;"), 6);
            for (int what = 0; what <= 12; what++) {
                Bench.due("count(" + what + ")", x.count(what), new int[] {4, 2, 0, 2, 0, 0, 0, 0, 0, 0, 0, 0, 0}[what]);
            }
            for (int law = 0; law < 3; law++) {
                Bench.due("law(" + law + ", 0)", x.law(law, 0), ERROR);
            }
            Bench.due("row(2)", x.row(2), 0b1010);
            Bench.due("holds(1, 0)", x.holds(1, 0), 1);
            x.seal(3);
            x.go(1);
            Bench.due("no oil, no push", x.row(0) * 256 + x.row(1) + x.count(8), 8);
        }
        Bench.says("3 text: numbers are from the seed on, the same text over and over");
        String drawn = Bench.latches(4, 0) + "push a 0;push b 0;push c 0;push d 0;rust 50;seed 31;";
        x = Bench.door(drawn);
        x.go(1);
        int sealed = x.row(1);
        for (int time = 0; time < 3; time++) {
            Bench.tell(x, drawn);
            x.go(1);
            Bench.due("row(1)", x.row(1), sealed);
        }
    }

    private static void textWithFault() {
        Bench.says("3 text: NONE with a FAULT, all stays");
        LeanLatches x = busy();
        LeanLatches y = busy();
        Bench.due("text", Bench.tell(x, "latch q 1;oil 5;rust 7;seed 8;law seal 1;push q 100;"), -1);
        for (int what = 0; what <= 12; what++) {
            Bench.due("count(" + what + ")", x.count(what), y.count(what));
        }
        for (int what = 0; what <= 2; what++) {
            Bench.due("row(" + what + ")", x.row(what), y.row(what));
            Bench.due("law(" + what + ", 0)", x.law(what, 0), y.law(what, 0));
        }
        Bench.due("named", x.named(Bench.letters("a")), 0);
        Bench.due("named q", x.named(Bench.letters("q")), -1);
        Bench.due("holds(1, 0)", x.holds(1, 0), y.holds(1, 0));
        Bench.due("fits(0)", x.fits(0), y.fits(0));
        Bench.due("ahead(9, 4)", x.ahead(9, 4), y.ahead(9, 4));
        Bench.due("undo()", x.undo(), y.undo());
        Bench.due("back()", x.back(), y.back());
        x.go(5);
        y.go(5);
        Bench.due("row(1) by the same numbers", x.row(1), y.row(1));
    }

    private static void textRefused() {
        Bench.says("3 text: -2, and the TAPE stays: there are not so many, n is below 0");
        LeanLatches x = new LeanLatches();
        Bench.feed(x, "oil 1;");
        for (int n : and(21, 700, 701)) {
            Bench.due("text(" + n + ")", x.text(n), -2);
        }
        Bench.due("text(6)", x.text(6), 1);
        Bench.says("3 text: -2 leaves all else, too");
        x = busy();
        x.text(1);
        x.text(-1);
        Bench.due("count(0)", x.count(0), 3);
        Bench.due("undo()", x.undo(), 0);
        Bench.due("back()", x.back(), 2);
    }

    private static void fault() {
        Bench.says("4 fault: of a new object; NONE without");
        LeanLatches x = new LeanLatches();
        Bench.due("fault(0)", x.fault(0), 0);
        Bench.due("fault(1)", x.fault(1), -1);
        Bench.says("4 fault: a place 0, the length as a place");
        Bench.tell(x, "$");
        Bench.due("fault(0)", x.fault(0), 1);
        Bench.due("fault(1)", x.fault(1), 0);
        Bench.tell(x, " ".repeat(697) + "oil");
        Bench.due("fault(1)", x.fault(1), 700);
        Bench.says("4 fault: of the latest text() that was not -2");
        Bench.due("text(1)", x.text(1), -2);
        Bench.due("text(-1)", x.text(-1), -2);
        Bench.due("fault(0)", x.fault(0), 1);
        Bench.due("fault(1)", x.fault(1), 700);
        Bench.tell(x, "oil 100;");
        Bench.due("fault(0) of another one", x.fault(0), 2);
        Bench.due("fault(1) of another one", x.fault(1), 4);
        Bench.tell(x, "oil 99;");
        Bench.due("fault(0) without", x.fault(0), 0);
        Bench.due("fault(1) without", x.fault(1), -1);
        Bench.says("4 fault: NONE for another what");
        Bench.tell(x, "oil 100;");
        for (int what : and(2, 3)) {
            Bench.due("fault(" + what + ")", x.fault(what), -1);
        }
    }

    private static void named() {
        Bench.says("5 named: of one letter, of six; the first one highest of six, 0 behind the last one");
        LeanLatches x = Bench.door("latch a 0;latch z 0;latch zzzzzz 0;latch aaaaaa 0;latch az 0;");
        Bench.due("a", x.named(1 << 25), 0);
        Bench.due("z", x.named(26 << 25), 1);
        Bench.due("zzzzzz", x.named(Bench.letters("zzzzzz")), 2);
        Bench.due("aaaaaa", x.named(Bench.letters("aaaaaa")), 3);
        Bench.due("az", x.named(1 << 25 | 26 << 20), 4);
        Bench.says("5 named: NONE: there is none such");
        Bench.due("no letters", x.named(0), -1);
        Bench.due("the last one lowest", x.named(1), -1);
        Bench.due("0 ahead of a letter", x.named(1 << 20), -1);
        Bench.due("0 between letters", x.named(1 << 25 | 26 << 15), -1);
        Bench.due("one letter more", x.named(1 << 25 | 1 << 20), -1);
        Bench.due("bits above six letters", x.named(1 << 30 | 1 << 25), -1);
        Bench.due("below 0", x.named(1 << 31 | 1 << 25), -1);
        for (int letters : FAR) {
            Bench.due("named(" + letters + ")", x.named(letters), -1);
        }
        Bench.due("a number beyond z", x.named(27 << 25), -1);
        Bench.due("of none", new LeanLatches().named(1 << 25), -1);
        Bench.due("0 of none", new LeanLatches().named(0), -1);
    }

    private static void latch() {
        Bench.says("6 latch: IndexOutOfBoundsException: no such LATCH");
        LeanLatches x = Bench.door(AB);
        for (int latch : and(2, 3, 8)) {
            for (int what = 0; what < 4; what++) {
                Bench.due("latch(" + latch + ", " + what + ")", Bench.thrown(x, latch, what), 1);
            }
            Bench.due("latch(" + latch + ", 4), neither", Bench.thrown(x, latch, 4), 1);
        }
        Bench.due("the eighth", Bench.thrown(Bench.door(Bench.latches(8, 0)), 7, 0), 0);
        Bench.due("a ninth", Bench.thrown(Bench.door(Bench.latches(8, 0)), 8, 0), 1);
        Bench.says("6 latch: NoSuchElementException: no such what");
        for (int what : and(4, 5)) {
            Bench.due("latch(0, " + what + ")", Bench.thrown(x, 0, what), 2);
        }
        for (int what = 0; what < 4; what++) {
            Bench.due("latch(1, " + what + ") throws nothing", Bench.thrown(x, 1, what), 0);
        }
        Bench.says("6 latch: whether up, SEALED, whether it can be MOVED, how often WORN");
        x = Bench.door(AB + "lean b down a;law seal place=1;");
        Bench.due("latch(0, 0)", x.latch(0, 0), 1);
        Bench.due("latch(1, 1)", x.latch(1, 1), 0);
        Bench.due("latch(1, 2)", x.latch(1, 2), 0);
        Bench.due("latch(1, 3)", x.latch(1, 3), 0);
        x.push(0);
        x.push(1);
        Bench.due("latch(0, 0)", x.latch(0, 0), 0);
        Bench.due("latch(1, 0)", x.latch(1, 0), 1);
        Bench.due("latch(0, 1)", x.latch(0, 1), 0);
        Bench.due("latch(1, 1)", x.latch(1, 1), 1);
        Bench.due("latch(1, 2), sealed", x.latch(1, 2), 0);
        Bench.due("latch(0, 2)", x.latch(0, 2), 1);
        Bench.due("latch(1, 3)", x.latch(1, 3), 1);
    }

    private static void row() {
        Bench.says("7 row: NONE for another what");
        LeanLatches x = Bench.door(AB);
        for (int what : and(3, 4)) {
            Bench.due("row(" + what + ")", x.row(what), -1);
        }
        Bench.says("7 row: none, all");
        x = Bench.door(Bench.latches(8, 1));
        Bench.due("row(0)", x.row(0), 255);
        Bench.due("row(1)", x.row(1), 0);
        Bench.due("row(2)", x.row(2), 255);
        for (int latch = 0; latch < 8; latch++) {
            x.force(latch);
            x.seal(latch);
        }
        Bench.due("row(0)", x.row(0), 0);
        Bench.due("row(1)", x.row(1), 255);
        Bench.due("row(2)", x.row(2), 0);
    }

    private static void could() {
        Bench.says("8 could: NONE: no such ones");
        LeanLatches x = Bench.door(AB + "lean b up a;");
        for (int row : and(4, 5, 255, 256)) {
            Bench.due("could(" + row + ", 0)", x.could(row, 0), -1);
        }
        for (int latch : and(2, 7, 8, 32)) {
            Bench.due("could(0, " + latch + ")", x.could(0, latch), -1);
        }
        Bench.due("the last ROW", x.could(3, 1), 1);
        Bench.due("the last ROW of eight", Bench.door(Bench.latches(8, 0)).could(255, 7), 1);
        Bench.due("one more", Bench.door(Bench.latches(8, 0)).could(256, 7), -1);
        Bench.says("8 could: were it not SEALED");
        x.seal(1);
        Bench.due("could(1, 1)", x.could(1, 1), 1);
        Bench.due("could(0, 1)", x.could(0, 1), 0);
    }

    private static void law() {
        Bench.says("9 law: Long.MIN_VALUE: no such law, no such LATCH, an ERROR");
        LeanLatches x = Bench.door(AB + "law effort 1;law eat 1/place;");
        for (int what : and(3, 4)) {
            Bench.due("law(" + what + ", 0)", x.law(what, 0), ERROR);
        }
        for (int latch : and(2, 8)) {
            Bench.due("law(0, " + latch + ")", x.law(0, latch), ERROR);
        }
        Bench.due("a law that isn't told", x.law(1, 0), ERROR);
        Bench.due("an ERROR of a", x.law(2, 0), ERROR);
        Bench.due("none of b", x.law(2, 1), 1);
        Bench.due("law(0, 1)", x.law(0, 1), 1);
    }

    private static void push() {
        Bench.says("10 push: -2: it can't be MOVED (not in VAIN)");
        LeanLatches x = Bench.door(AB + "lean b down a;");
        Bench.due("as it LEANS", x.push(1), -2);
        x.seal(0);
        Bench.due("as it is SEALED", x.push(0), -2);
        Bench.due("VAIN, EFFORT, WORN", x.count(8) + x.count(7) + x.count(9), 0);
        Bench.due("to undo", x.count(12), 1);
        Bench.says("10 push: NONE: no such LATCH");
        for (int latch : and(2, 8)) {
            Bench.due("push(" + latch + ")", x.push(latch), -1);
        }
        Bench.says("10 push: how many are up: none, all");
        x = Bench.door("latch a 1;");
        Bench.due("none", x.push(0), 0);
        Bench.due("all", x.push(0), 1);
        Bench.due("all eight", Bench.door("latch a 0;" + Bench.latches(8, 1).substring(10)).push(0), 8);
    }

    private static void force() {
        Bench.says("11 force: whatever it LEANS on, SEALED or not (nothing is WORN, no EFFORT)");
        LeanLatches x = Bench.door(AB + "lean b down a;law seal 1;rust 100;");
        Bench.due("as it LEANS", x.force(1), 1);
        x.seal(1);
        Bench.due("as it is SEALED", x.force(1), 0);
        Bench.due("it is still", x.row(1), 2);
        Bench.due("no other one is", x.force(0), 0);
        Bench.due("SEALED", x.row(1), 2);
        Bench.due("WORN, EFFORT, VAIN", x.count(9) + x.count(7) + x.count(8), 0);
        Bench.says("11 force: NONE: no such LATCH");
        for (int latch : and(2, 8)) {
            Bench.due("force(" + latch + ")", x.force(latch), -1);
        }
        Bench.due("to undo", x.count(12), 4);
    }

    private static void seal() {
        Bench.says("12 seal: or isn't any more, if it is");
        LeanLatches x = Bench.door(AB + "lean b down a;");
        Bench.due("seal(1)", x.seal(1), 1);
        Bench.due("seal(1) again", x.seal(1), 0);
        Bench.due("row(1)", x.row(1), 0);
        x = Bench.door("latch a 0;law seal 1;");
        x.push(0);
        Bench.due("one SEALED by a law", x.seal(0), 0);
        Bench.says("12 seal: NONE: no such LATCH");
        for (int latch : and(1, 8)) {
            Bench.due("seal(" + latch + ")", x.seal(latch), -1);
        }
        Bench.due("to undo", x.count(12), 2);
    }

    private static void go() {
        Bench.says("13 go: so many MINUTES (0 .. 200)");
        LeanLatches x = Bench.door("latch a 0;push a 0;push a 99;");
        Bench.due("go(0)", x.go(0), 0);
        Bench.due("none goes by", x.row(0), 0);
        Bench.due("go(1)", x.go(1), 1);
        Bench.due("the first went by", x.row(0), 1);
        Bench.due("go(200)", x.go(200), 201);
        Bench.due("99 went by", x.row(0), 0);
        Bench.says("13 go: as many at once as one by one");
        LeanLatches y = busy();
        x = busy();
        x.go(7);
        for (int i = 0; i < 7; i++) {
            y.go(1);
        }
        Bench.due("row(0)", x.row(0), y.row(0));
        Bench.due("row(1)", x.row(1), y.row(1));
        Bench.due("count(7)", x.count(7), y.count(7));
        Bench.due("count(8)", x.count(8), y.count(8));
    }

    private static void goRefused() {
        Bench.says("13 go: NONE, and none does: no such number");
        LeanLatches x = Bench.door("latch a 0;push a 0;");
        for (int n : and(201, 202, 9000)) {
            Bench.due("go(" + n + ")", x.go(n), -1);
        }
        Bench.due("count(4)", x.count(4), 0);
        Bench.due("row(0)", x.row(0), 0);
        Bench.says("13 go: NONE, and none does: behind 9000");
        for (int i = 1; i <= 44; i++) {
            x.go(200);
        }
        Bench.due("count(4)", x.count(4), 8800);
        x.keep();
        Bench.due("to 9000 itself", x.go(200), 9000);
        Bench.due("go(1)", x.go(1), -1);
        Bench.due("go(200)", x.go(200), -1);
        Bench.due("go(0)", x.go(0), 9000);
        Bench.due("count(4)", x.count(4), 9000);
        x.back();
        Bench.due("go(199)", x.go(199), 8999);
        Bench.due("go(2)", x.go(2), -1);
        Bench.due("go(200)", x.go(200), -1);
        Bench.due("count(4)", x.count(4), 8999);
        x.force(0);
        Bench.due("go(2) leaves what can be undone", x.go(2) + x.count(12), 0);
        Bench.due("AHEAD and TRIED may go behind it", x.ahead(200, 0) + x.tried(0, 0, 200), 0);
    }

    private static void ahead() {
        Bench.says("14 ahead: n 0 .. 200; NONE: no such ones");
        LeanLatches x = Bench.door("latch a 0;push a 0;");
        for (int what = 0; what < 5; what++) {
            Bench.due("ahead(0, " + what + ")", x.ahead(0, what), 0);
            Bench.due("ahead(200, " + what + ")", x.ahead(200, what), new int[] {1, 1, 0, 0, 1}[what]);
            for (int n : and(201)) {
                Bench.due("ahead(" + n + ", " + what + ")", x.ahead(n, what), -1);
            }
        }
        for (int what : and(5, 6)) {
            Bench.due("ahead(1, " + what + ")", x.ahead(1, what), -1);
            Bench.due("ahead(201, " + what + ")", x.ahead(201, what), -1);
        }
    }

    private static void when() {
        Bench.says("15 when: 1: this MINUTE; -2: not by then");
        LeanLatches x = Bench.door("latch a 0;latch b 1;latch c 0;push a 0;push b 0;");
        Bench.due("down and now up", x.when(0), 1);
        Bench.due("up and now down", x.when(1), 1);
        Bench.due("not by then", x.when(2), -2);
        Bench.says("15 when: NONE: no such LATCH");
        for (int latch : and(3, 8)) {
            Bench.due("when(" + latch + ")", x.when(latch), -1);
        }
    }

    private static void fewestFirstWays() {
        LeanLatches x = Bench.door(AB + "lean b up a;latch c 0;lean c many 3;");
        Bench.says("16 fewest: -2: it can't be had; NONE: no such ROW");
        Bench.due("fewest(1)", x.fewest(1), 0);
        Bench.due("fewest(5)", x.fewest(5), -2);
        Bench.says("17 first: -2: it can't be had, it is that of now; NONE: no such ROW");
        Bench.due("first(5)", x.first(5), -2);
        Bench.due("first(1)", x.first(1), -2);
        Bench.due("first(2)", x.first(2), 1);
        Bench.says("18 ways: 1 to that of now, 0: it can't be had; NONE: no such ROW");
        Bench.due("ways(1)", x.ways(1), 1);
        Bench.due("ways(5)", x.ways(5), 0);
        Bench.due("ways(2)", x.ways(2), 1);
        for (int row : and(8, 9, 255, 256)) {
            Bench.due("fewest(" + row + ")", x.fewest(row), -1);
            Bench.due("first(" + row + ")", x.first(row), -1);
            Bench.due("ways(" + row + ")", x.ways(row), -1);
        }
        x = Bench.door(Bench.latches(8, 0));
        Bench.due("fewest(255)", x.fewest(255), 8);
        Bench.due("fewest(256)", x.fewest(256), -1);
        Bench.due("first(128)", x.first(128), 7);
        Bench.due("ways(255)", x.ways(255), 40320);
    }

    private static void reachFarthest() {
        Bench.says("19 reach: of none but that of now, of all");
        LeanLatches x = Bench.door(Bench.latches(8, 1));
        Bench.due("reach()", x.reach(), 256);
        for (int latch = 0; latch < 8; latch++) {
            x.seal(latch);
            Bench.due("reach(), sealed to " + latch, x.reach(), 256 >> latch + 1);
        }
        Bench.says("20 farthest: of one alone");
        Bench.due("farthest(0)", x.farthest(0), 0);
        Bench.due("farthest(1)", x.farthest(1), 255);
        Bench.says("20 farthest: NONE for another what");
        for (int what : and(2, 3)) {
            Bench.due("farthest(" + what + ")", x.farthest(what), -1);
        }
        x = Bench.door(Bench.latches(8, 1));
        Bench.due("farthest(0)", x.farthest(0), 8);
        Bench.due("farthest(1)", x.farthest(1), 0);
    }

    private static void wideParts() {
        Bench.says("21 wide, 22 parts: as SEALED ones are now");
        LeanLatches x = Bench.door(Bench.latches(8, 1));
        for (int sealed = 0; sealed <= 8; sealed++) {
            Bench.due("wide(), sealed " + sealed, x.wide(), 8 - sealed);
            Bench.due("parts(), sealed " + sealed, x.parts(), 1 << sealed);
            x.seal(sealed);
        }
    }

    private static void past() {
        LeanLatches x = Bench.door(AB + "lean b up a;latch c 0;lean c many 3;");
        Bench.says("23 past: -2: there are no so many");
        Bench.due("past(2, 0)", x.past(2, 0), 3);
        Bench.due("past(2, 1)", x.past(2, 1), -2);
        Bench.due("past(2, 255)", x.past(2, 255), -2);
        Bench.due("past(2, most)", x.past(2, Integer.MAX_VALUE), -2);
        Bench.due("past(0, 0)", x.past(0, 0), -2);
        Bench.says("23 past: NONE: k is below 0");
        Bench.due("past(2, -1)", x.past(2, -1), -1);
        Bench.due("past(2, least)", x.past(2, Integer.MIN_VALUE), -1);
        Bench.says("23 past: NONE: it can't be had");
        Bench.due("past(5, 0)", x.past(5, 0), -1);
        Bench.due("past(5, 99)", x.past(5, 99), -1);
        Bench.says("23 past: NONE: it is that of now");
        Bench.due("past(1, 0)", x.past(1, 0), -1);
        Bench.says("23 past: NONE: no such ROW");
        for (int row : and(8, 256)) {
            Bench.due("past(" + row + ", 0)", x.past(row, 0), -1);
        }
    }

    private static void mustFreeEase() {
        LeanLatches x = Bench.door(AB + "lean b up a;latch c 0;lean c many 3;");
        Bench.says("24 must: -2: it can't be had; NONE: no such ROW");
        Bench.due("must(1)", x.must(1), 0);
        Bench.due("must(5)", x.must(5), -2);
        Bench.says("25 free: -2: by none; NONE: no such LATCH");
        Bench.due("free(1)", x.free(1), 1);
        Bench.due("free(2)", x.free(2), -2);
        for (int latch : and(3, 8)) {
            Bench.due("free(" + latch + ")", x.free(latch), -1);
        }
        Bench.says("26 ease: -2: by none; NONE: no such ROW");
        Bench.due("ease(5)", x.ease(5), 4);
        Bench.due("ease(1)", x.ease(1), 0);
        x.seal(2);
        Bench.due("ease(5)", x.ease(5), -2);
        Bench.due("ease(1), that of now", x.ease(1), 0);
        for (int row : and(8, 256)) {
            Bench.due("must(" + row + ")", x.must(row), -1);
            Bench.due("ease(" + row + ")", x.ease(row), -1);
        }
    }

    private static void game() {
        Bench.says("27 game: 0: who begins, 1: the other one; -2: he can't win");
        LeanLatches x = Bench.door(AB);
        Bench.due("game(0)", x.game(0), 0);
        Bench.due("game(1)", x.game(1), 1);
        x.seal(1);
        Bench.due("game(0)", x.game(0), 1);
        Bench.due("game(1)", x.game(1), -2);
        Bench.says("27 game: NONE for another what");
        for (int what : and(2, 3)) {
            Bench.due("game(" + what + ")", x.game(what), -1);
        }
    }

    private static void drunk() {
        Bench.says("28 drunk: n 0 .. 5, in least terms");
        LeanLatches x = Bench.door(Bench.latches(3, 0));
        Bench.due("n 0, above", x.drunk(0, 0, 0), 1);
        Bench.due("n 0, below", x.drunk(0, 0, 1), 1);
        Bench.due("n 2 to 3: 2 of 9, above", x.drunk(3, 2, 0), 2);
        Bench.due("n 2 to 3: 2 of 9, below", x.drunk(3, 2, 1), 9);
        Bench.due("n 2 to 0: 3 of 9, below", x.drunk(0, 2, 1), 3);
        Bench.due("n 5 to 7: 60 of 243, above", x.drunk(7, 5, 0), 20);
        Bench.due("n 5 to 7: 60 of 243, below", x.drunk(7, 5, 1), 81);
        Bench.due("n 5 to 0: none, below", x.drunk(0, 5, 1), 1);
        Bench.says("28 drunk: NONE: no such ones");
        for (int wrong : and(6, 8, 256)) {
            Bench.due("drunk(0, " + wrong + ", 0)", x.drunk(0, wrong, 0), -1);
            Bench.due("drunk(0, 1, " + wrong + ")", x.drunk(0, 1, wrong), -1);
        }
        Bench.due("drunk(0, 1, 2)", x.drunk(0, 1, 2), -1);
        for (int row : and(8, 256)) {
            Bench.due("drunk(" + row + ", 1, 0)", x.drunk(row, 1, 0), -1);
        }
    }

    private static void holds() {
        Bench.says("29 holds: n 0 .. 6, in least terms");
        LeanLatches x = Bench.door("rust 60;");
        Bench.due("n 0", x.holds(0, 0), 1);
        Bench.due("n 0", x.holds(0, 1), 1);
        Bench.due("n 6", x.holds(6, 0), 64);
        Bench.due("n 6", x.holds(6, 1), 15625);
        Bench.says("29 holds: NONE: no such ones");
        for (int wrong : and(7, 8)) {
            Bench.due("holds(" + wrong + ", 0)", x.holds(wrong, 0), -1);
            Bench.due("holds(1, " + wrong + ")", x.holds(1, wrong), -1);
        }
        Bench.due("holds(1, 2)", x.holds(1, 2), -1);
    }

    private static void note() {
        Bench.says("30 note: NONE: no such ones");
        LeanLatches x = Bench.door(AB);
        for (int row : and(4, 256)) {
            Bench.due("note(" + row + ", 0, true)", x.note(row, 0, true), -1);
        }
        for (int latch : and(2, 8)) {
            Bench.due("note(0, " + latch + ", false)", x.note(0, latch, false), -1);
        }
        Bench.due("count(10)", x.count(10), 0);
        Bench.says("30 note: its number; NONE: there are 24 in all");
        for (int i = 0; i < 24; i++) {
            Bench.due("note(3, 1, true)", x.note(3, 1, true), i);
        }
        Bench.due("a 25th", x.note(3, 1, true), -1);
        Bench.due("count(10)", x.count(10), 24);
    }

    private static void strike() {
        Bench.says("31 strike: NONE: no such NOTE or STRIKE");
        LeanLatches x = Bench.door(AB);
        Bench.due("of none", x.strike(0), -1);
        x.note(0, 0, true);
        for (int note : and(1, 2, 24)) {
            Bench.due("strike(" + note + ")", x.strike(note), -1);
        }
        Bench.due("strike(0)", x.strike(0), 1);
        Bench.due("of a STRIKE", x.strike(1), 2);
        Bench.due("of itself", x.strike(3), -1);
        Bench.says("31 strike: NONE: there are 24 in all");
        for (int i = 3; i < 24; i++) {
            Bench.due("strike(0)", x.strike(0), i);
        }
        Bench.due("a 25th", x.strike(0), -1);
        Bench.due("count(10)", x.count(10), 24);
    }

    private static void known() {
        Bench.says("32 known: false: no such n");
        LeanLatches x = Bench.door(AB);
        x.note(2, 0, true);
        x.strike(0);
        for (int n : new int[] {3, 24, 25, -2, Integer.MIN_VALUE, Integer.MAX_VALUE}) {
            Bench.due("known(" + n + ")", x.known(n) ? 1 : 0, 0);
            Bench.due("count(11)", x.count(11), 2);
        }
        for (int n : new int[] {0, 1, 2}) {
            Bench.due("known(" + n + ")", x.known(n) ? 1 : 0, 1);
            Bench.due("count(11)", x.count(11), n);
        }
        Bench.says("32 known: n is so from now on, though more come");
        x.strike(1);
        Bench.due("count(11)", x.count(11), 2);
        Bench.due("fits(0)", x.fits(0), 0b11001);
        Bench.says("32 known: -1: by all, also those to come");
        Bench.due("known(-1)", x.known(-1) ? 1 : 0, 1);
        Bench.due("count(11)", x.count(11), 3);
        Bench.due("fits(0)", x.fits(0), 0b01001);
        x.strike(0);
        Bench.due("count(11)", x.count(11), 4);
        Bench.due("fits(0)", x.fits(0), 0b11001);
        Bench.says("32 known: all 24, one more");
        for (int i = 4; i < 24; i++) {
            x.note(0, 1, true);
        }
        Bench.due("known(25)", x.known(25) ? 1 : 0, 0);
        Bench.due("known(24)", x.known(24) ? 1 : 0, 1);
    }

    private static void fits() {
        Bench.says("33 fits: NONE: no such LATCH");
        LeanLatches x = Bench.door(AB);
        for (int latch : and(2, 8)) {
            Bench.due("fits(" + latch + ")", x.fits(latch), -1);
        }
        Bench.due("fits(1)", x.fits(1), 0b00111);
        Bench.due("fits(0)", x.fits(0), 0b11001);
    }

    private static void ask() {
        Bench.says("34 ask: NONE: no such ones");
        LeanLatches x = Bench.door(AB);
        for (int latch : and(2, 8)) {
            Bench.due("ask(" + latch + ", 0)", x.ask(latch, 0), -1);
            Bench.due("ask(" + latch + ", 1)", x.ask(latch, 1), -1);
        }
        for (int what : and(2, 3)) {
            Bench.due("ask(0, " + what + ")", x.ask(0, what), -1);
        }
        Bench.says("34 ask: 0 and 0, if none fits");
        x.note(3, 0, true);
        x.note(3, 0, false);
        Bench.due("ask(0, 0)", x.ask(0, 0), 0);
        Bench.due("ask(0, 1)", x.ask(0, 1), 0);
    }

    private static void chance() {
        Bench.says("35 chance: a seed 0 .. 2147483647, n 1 .. 99; NONE: no such ones");
        LeanLatches x = Bench.door("latch a 0;latch b 0;push a 0;push b 98;rust 100;");
        Bench.due("chance(0, 1, 0)", x.chance(0, 1, 0), 10);
        Bench.due("chance(2147483647, 1, 0)", x.chance(Integer.MAX_VALUE, 1, 0), 10);
        Bench.due("chance(0, 98, 1)", x.chance(0, 98, 1), 0);
        Bench.due("chance(0, 99, 1)", x.chance(0, 99, 1), 10);
        for (int seed : new int[] {-1, Integer.MIN_VALUE}) {
            Bench.due("chance(" + seed + ", 1, 0)", x.chance(seed, 1, 0), -1);
        }
        for (int n : and(0, 100, 200)) {
            Bench.due("chance(0, " + n + ", 0)", x.chance(0, n, 0), -1);
        }
        for (int latch : and(2, 8)) {
            Bench.due("chance(0, 1, " + latch + ")", x.chance(0, 1, latch), -1);
        }
        Bench.says("35 chance: numbers one behind another, through all ten times");
        x = Bench.door("latch a 0;push a 0;rust 50;seed 1;");
        for (int seed = 0; seed < 40; seed++) {
            long number = seed * 53000000L;
            int times = 0;
            for (int i = 0; i < 10; i++) {
                number = Bench.drawn(number);
                times += Bench.ofHundred(number) < 50 ? 1 : 0;
            }
            Bench.due("chance(" + seed * 53000000L + ", 1, 0)", x.chance((int) (seed * 53000000L), 1, 0), times);
        }
        Bench.says("35 chance: from now: as SEALED and MINUTE are");
        x.seal(0);
        Bench.due("sealed already", x.chance(5, 1, 0), 10);
        x.seal(0);
        x.go(1);
        int sealed = x.row(1);
        Bench.due("none is pushed any more", x.chance(5, 1, 0), sealed * 10);
    }

    private static void tried() {
        Bench.says("36 tried: n 0 .. 200; NONE: no such ones (i 0 of all but 2)");
        LeanLatches x = Bench.door("latch a 0;latch b 0;push a 0;");
        for (int what = 0; what < 5; what++) {
            Bench.due("tried(" + what + ", 0, 0)", x.tried(what, 0, 0), 0);
            Bench.due("tried(" + what + ", 0, 200)", x.tried(what, 0, 200), new int[] {1, 1, 0, 1, 2}[what]);
            for (int n : and(201)) {
                Bench.due("tried(" + what + ", 0, " + n + ")", x.tried(what, 0, n), -1);
            }
            for (int i : and(2, 8)) {
                Bench.due("tried(" + what + ", " + i + ", 1)", x.tried(what, i, 1), -1);
            }
            Bench.due("tried(" + what + ", 1, 1)", x.tried(what, 1, 1), what == 2 ? 1 : -1);
        }
        for (int what : and(5, 6)) {
            Bench.due("tried(" + what + ", 0, 1)", x.tried(what, 0, 1), -1);
        }
        Bench.says("36 tried: 2 without a LATCH");
        Bench.due("tried(2, 0, 1)", new LeanLatches().tried(2, 0, 1), -1);
    }

    private static void undo() {
        Bench.says("37 undo: how many are left; NONE: none");
        LeanLatches x = Bench.door(AB);
        Bench.due("undo()", x.undo(), -1);
        x.force(0);
        x.force(0);
        Bench.due("undo()", x.undo(), 1);
        Bench.due("undo()", x.undo(), 0);
        Bench.due("undo()", x.undo(), -1);
        Bench.due("row(0)", x.row(0), 1);
    }

    private static void keepBack() {
        Bench.says("38 keep: an IMAGE in place of one ahead; which MINUTE it is");
        LeanLatches x = Bench.door(AB);
        Bench.due("keep() at first", x.keep(), 0);
        x.force(0);
        x.go(3);
        Bench.due("keep()", x.keep(), 3);
        Bench.due("back()", x.back(), 3);
        Bench.due("row(0)", x.row(0), 0);
        Bench.says("38 keep: what can be undone stays so");
        x.force(1);
        x.keep();
        Bench.due("undo()", x.undo(), 0);
        Bench.says("39 back: all is as in the IMAGE, however often");
        Bench.due("back()", x.back(), 3);
        Bench.due("row(0)", x.row(0), 2);
        x.force(0);
        x.seal(1);
        Bench.due("back()", x.back(), 3);
        Bench.due("row(0)", x.row(0), 2);
        Bench.due("row(1)", x.row(1), 0);
        Bench.says("39 back: nothing to undo then");
        x.force(0);
        x.back();
        Bench.due("undo()", x.undo(), -1);
        Bench.due("row(0)", x.row(0), 2);
        Bench.says("39 back: NONE: there is none, all stays");
        x = Bench.door(AB);
        x.force(0);
        Bench.due("back()", x.back(), -1);
        Bench.due("count(12)", x.count(12), 1);
        Bench.due("row(0)", x.row(0), 0);
    }

    private static void count() {
        Bench.says("40 count: NONE for another what");
        LeanLatches x = Bench.door(AB);
        for (int what : and(13, 14)) {
            Bench.due("count(" + what + ")", x.count(what), -1);
        }
        Bench.says("40 count: as much as there may be");
        StringBuilder text = new StringBuilder(Bench.latches(8, 1));
        for (char c = 'a'; c <= 'h'; c++) {
            text.append("lean ").append(c).append(" many 0;");
        }
        text.append("push a 0;".repeat(16)).append("law eat ").append("not ".repeat(54)).append("0;law effort 999;");
        x = Bench.door(text.toString());
        x.go(1);
        for (int latch = 0; latch < 8; latch++) {
            x.seal(latch);
        }
        for (int i = 0; i < 24; i++) {
            x.note(0, 0, true);
        }
        for (int i = 0; i < 20; i++) {
            x.force(1);
        }
        int[] due = {8, 8, 16, 64, 1, 8, 8, 16 * 999, 0, 16, 24, 24, 20};
        for (int what = 0; what <= 12; what++) {
            Bench.due("count(" + what + ")", x.count(what), due[what]);
        }
        Bench.says("40 count: VAIN, 16 in one MINUTE");
        x = Bench.door("latch a 0;lean a many 8;" + "push a 0;".repeat(16));
        x.go(1);
        Bench.due("count(8)", x.count(8), 16);
    }
}
