/** Promises 6 to 9 and 40: latch, row, could, law, count; how latches lean and what laws are worth. */
public final class DoorTest {
    public static void main(String[] args) {
        latches();
        rows();
        leaning();
        manyAndAs();
        values();
        errors();
        names();
        counts();
        Bench.end("DoorTest");
    }

    private static void latches() {
        LeanLatches x = Bench.door("latch a 1;latch b 0;lean b down a;");
        Bench.due("latch(0, 0)", x.latch(0, 0), 1);
        Bench.due("latch(1, 0)", x.latch(1, 0), 0);
        Bench.due("latch(0, 2)", x.latch(0, 2), 1);
        Bench.due("latch(1, 2)", x.latch(1, 2), 0);
        x.push(0);
        Bench.due("latch(0, 3)", x.latch(0, 3), 1);
        Bench.due("latch(1, 3)", x.latch(1, 3), 0);
        Bench.due("latch(1, 2) while a is down", x.latch(1, 2), 1);
        x.seal(1);
        Bench.due("latch(1, 1)", x.latch(1, 1), 1);
        Bench.due("latch(1, 2) while sealed", x.latch(1, 2), 0);
        Bench.due("latch(2, 0)", Bench.thrown(x, 2, 0), 1);
        Bench.due("latch(-1, 0)", Bench.thrown(x, -1, 0), 1);
        Bench.due("latch(2, 9)", Bench.thrown(x, 2, 9), 1);
        Bench.due("latch(1, 4)", Bench.thrown(x, 1, 4), 2);
        Bench.due("latch(1, -1)", Bench.thrown(x, 1, -1), 2);
    }

    private static void rows() {
        LeanLatches x = Bench.door("latch a 1;latch b 0;latch c 1;lean b down a;");
        Bench.due("row(0)", x.row(0), 5);
        Bench.due("row(1)", x.row(1), 0);
        Bench.due("row(2)", x.row(2), 5);
        x.seal(2);
        Bench.due("row(1) sealed", x.row(1), 4);
        Bench.due("row(2) sealed", x.row(2), 1);
        Bench.due("row(3)", x.row(3), -1);
        Bench.due("row(-1)", x.row(-1), -1);
        Bench.due("could sealed", x.could(5, 2), 1);
        Bench.due("could(8, 0)", x.could(8, 0), -1);
        Bench.due("could(-1, 0)", x.could(-1, 0), -1);
        Bench.due("could(0, 3)", x.could(0, 3), -1);
        Bench.due("could(0, -1)", x.could(0, -1), -1);
    }

    /** Rows of could() as bits, row 0 lowest. */
    private static void leans(String lean, int rows) {
        LeanLatches x = Bench.door("latch a 0;latch b 0;latch c 0;latch d 0;lean d " + lean + ";");
        for (int row = 0; row < 8; row++) {
            Bench.due("could(" + row + ", 3) of " + lean, x.could(row, 3), rows >> row & 1);
            Bench.due("could(" + (row + 8) + ", 3) of " + lean, x.could(row + 8, 3), rows >> row & 1);
        }
    }

    private static void leaning() {
        leans("up a", 0b10101010);
        leans("down a", 0b01010101);
        leans("up b and up c", 0b11000000);
        leans("up b or up c", 0b11111100);
        leans("up a or up b and up c", 0b11101010);
        leans("(up a or up b) and up c", 0b11100000);
        leans("not up a and up b", 0b01000100);
        leans("not (up a and up b)", 0b01110111);
        leans("not not up a", 0b10101010);
        leans("not up a or up b", 0b11011101);
        leans("many 0", 0b11111111);
        leans("many 1", 0b11111110);
        leans("many 2", 0b11101000);
        leans("many 3", 0b10000000);
        leans("many 4", 0);
        leans("not many 2 and many 1", 0b00010110);
    }

    private static void manyAndAs() {
        // Behind as, many counts others than the latch that leans so: b is none of its own others.
        LeanLatches x = Bench.door("latch a 0;latch b 0;latch c 0;lean a many 1;lean b as a;lean c as b;");
        Bench.due("could b in row of b alone", x.could(2, 1), 0);
        Bench.due("could b in row of a alone", x.could(1, 1), 1);
        Bench.due("could a in row of a alone", x.could(1, 0), 0);
        Bench.due("could a in row of b alone", x.could(2, 0), 1);
        Bench.due("could c in row of c alone, by as of as", x.could(4, 2), 0);
        Bench.due("could c in row of a alone, by as of as", x.could(1, 2), 1);
        Bench.due("could c in row of b alone, by as of as", x.could(2, 2), 1);
        Bench.due("could c in row of b and c", x.could(6, 2), 1);
        x = Bench.door("latch a 0;latch b 0;latch c 0;lean a not many 1;lean b not as a;"
            + "lean c many 1 and not (as b and many 2);");
        Bench.due("could b in row of b alone, by not as of not", x.could(2, 1), 0);
        Bench.due("could b in row of c alone, by not as of not", x.could(4, 1), 1);
        Bench.due("could c in row of c alone, its own many and that behind as", x.could(4, 2), 0);
        Bench.due("could c in row of a and c, its own many and that behind as", x.could(5, 2), 1);
        Bench.due("could c in row of all", x.could(7, 2), 0);
        // A latch told behind the line that leans counts, too.
        x = Bench.door("latch a 0;lean a many 1;latch b 0;latch c 1;");
        Bench.due("could a while c is up", x.could(4, 0), 1);
        x = Bench.door("latch a 0;latch b 0;latch c 0;latch d 0;lean b up a;lean c not as b;lean d as c or as b and up c;");
        Bench.due("as: b", x.could(1, 1), 1);
        Bench.due("as: c is not as b", x.could(1, 2), 0);
        Bench.due("as: c in row 0", x.could(0, 2), 1);
        Bench.due("as: d in row 0", x.could(0, 3), 1);
        Bench.due("as: d in row 1", x.could(1, 3), 0);
        Bench.due("as: d in row 5", x.could(5, 3), 1);
        Bench.due("leans on nothing", x.could(7, 0), 1);
    }

    private static void law(String e, long value) {
        LeanLatches x = Bench.door("latch a 1;law eat " + e + ";");
        Bench.due("law eat " + e, x.law(2, 0), value);
    }

    private static void values() {
        law("7", 7);
        law("1 + 2 * 3", 7);
        law("(1 + 2) * 3", 9);
        law("10 - 4 - 3", 3);
        law("100 / 10 / 5", 2);
        law("7 / 2", 3);
        law("(0 - 7) / 2", -3);
        law("7 / (0 - 2)", -3);
        law("1 < 2", 1);
        law("2 < 2", 0);
        law("2 <= 2", 1);
        law("2 = 2", 1);
        law("2 = 3", 0);
        law("2 <> 2", 0);
        law("2 <> 3", 1);
        law("2 >= 3", 0);
        law("3 >= 3", 1);
        law("3 > 3", 0);
        law("4 > 3", 1);
        law("1 + 1 > 1", 1);
        law("not 5", 0);
        law("not 0", 1);
        law("not not 5", 1);
        law("not 1 < 2", 0);
        law("not 0 and 0", 0);
        law("5 and 7", 1);
        law("5 and 0", 0);
        law("0 or 7", 1);
        law("0 or 0", 0);
        law("1 or 1 and 0", 1);
        law("(1 or 1) and 0", 0);
        law("2 * (3 > 2)", 2);
        law("(2 < 1) = 0", 1);
        law("0 - 9999", -9999);
    }

    private static void errors() {
        long error = Long.MIN_VALUE;
        law("1 / 0", error);
        law("1 or 1 / 0", error);
        law("0 and 1 / 0", error);
        law("1000 * 1000 * 1000 * 1000", 1000000000000L);
        law("1000 * 1000 * 1000 * 999 + 1000 * 1000 * 1000", 1000000000000L);
        law("1000 * 1000 * 1000 * 1000 + 1", error);
        law("1000 * 1000 * 1000 * 1000 + 1 - 1", error);
        law("0 - 1000 * 1000 * 1000 * 1000", -1000000000000L);
        law("0 - 1000 * 1000 * 1000 * 1000 - 1", error);
        law("9999 * 9999 * 9999 * 9999", error);
        law("(1000 * 1000 * 1000 * 1000) * (1000 * 1000 * 1000 * 1000)", error);
        law("(1000 * 1000 * 1000 * 1000) * (0 - 1000 * 1000 * 1000 * 1000)", error);
        law("(0 - 1000 * 1000 * 1000 * 1000) * 0", 0);
        LeanLatches x = Bench.door("latch a 1;law seal 3;");
        Bench.due("law(1, 0)", x.law(1, 0), 3);
        Bench.due("a law not told", x.law(0, 0), error);
        Bench.due("a law not told", x.law(2, 0), error);
        Bench.due("no such law", x.law(3, 0), error);
        Bench.due("no such law", x.law(-1, 0), error);
        Bench.due("no such latch", x.law(1, 1), error);
        Bench.due("no such latch", x.law(1, -1), error);
    }

    private static void names() {
        LeanLatches x = Bench.door("latch a 1;latch b 0;latch c 1;law effort worn;");
        x.push(1);
        x.push(1);
        Bench.due("worn", x.law(0, 1), 2);
        Bench.due("worn of another", x.law(0, 0), 0);
        x = Bench.door("latch a 1;latch b 0;latch c 1;law effort place;law seal ups*100+seals*10+high;law eat minute;");
        Bench.due("place", x.law(0, 2), 2);
        x.seal(0);
        x.seal(1);
        Bench.due("ups, seals, high of b", x.law(1, 1), 220);
        Bench.due("ups, seals, high of c", x.law(1, 2), 221);
        x.go(40);
        Bench.due("minute", x.law(2, 0), 40);
        x = Bench.door("latch a 1;law effort 30;law seal tired-tired;law eat tired;");
        x.push(0);
        Bench.due("tired", x.law(2, 0), 30);
    }

    private static void counts() {
        LeanLatches x = Bench.door("latch a 1;latch b 1;latch c 0;lean b many 0;push c 0;push b 1;push a 0;push a 0;"
            + "law seal worn > 1;law effort 5;");
        int[] due = {3, 1, 4, 5, 0, 2, 0, 0, 0, 0, 0, 0, 0};
        for (int what = 0; what <= 12; what++) {
            Bench.due("count(" + what + ")", x.count(what), due[what]);
        }
        x.go(1);
        x.push(1);
        x.note(0, 0, true);
        x.strike(0);
        x.known(1);
        x.seal(2);
        // c and a twice are pushed in minute 0 (a is sealed by its second time), b by call.
        int[] then = {3, 1, 4, 5, 1, 2, 2, 20, 0, 4, 2, 1, 2};
        for (int what = 0; what <= 12; what++) {
            Bench.due("then count(" + what + ")", x.count(what), then[what]);
        }
        x.seal(1);
        x.go(1);
        Bench.due("a push in vain", x.count(8), 1);
        Bench.due("count(13)", x.count(13), -1);
        Bench.due("count(-1)", x.count(-1), -1);
        x.known(-1);
        Bench.due("known by all", x.count(11), 2);
    }
}
