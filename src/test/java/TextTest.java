/** Promises 1 to 5: a new object, feed, text, fault, named. */
public final class TextTest {
    public static void main(String[] args) {
        newObject();
        feeding();
        telling();
        standing();
        wrongTokens();
        wrongFormulas();
        endings();
        tooMuch();
        toldAlready();
        notTold();
        onItself();
        names();
        Bench.end("TextTest");
    }

    private static void newObject() {
        LeanLatches x = new LeanLatches();
        for (int what = 0; what <= 12; what++) {
            Bench.due("new count(" + what + ")", x.count(what), 0);
        }
        Bench.due("new fault(0)", x.fault(0), 0);
        Bench.due("new fault(1)", x.fault(1), -1);
        Bench.due("new text(1)", x.text(1), -2);
        Bench.due("new text(0)", x.text(0), 0);
        Bench.due("new undo", x.undo(), -1);
        Bench.due("new back", x.back(), -1);
        Bench.due("new reach", x.reach(), 1);
    }

    private static void feeding() {
        LeanLatches x = new LeanLatches();
        for (int i = 1; i <= 35; i++) {
            Bench.due("feed " + i, x.feed(0x20202020, 0x20202020, 0x20202020, 0x20202020, 0x20202020), 20 * i);
        }
        Bench.due("feed beyond 700", x.feed(1, 2, 3, 4, 5), -1);
        Bench.due("text(701)", x.text(701), -2);
        Bench.due("text(-1)", x.text(-1), -2);
        Bench.due("text(700) of blanks", x.text(700), 0);
        Bench.due("text(1) of an empty tape", x.text(1), -2);
        Bench.due("feed behind", x.feed(-1, -1, -1, -1, -1), 20);
        Bench.due("text of bytes 255", x.text(20), -1);
        Bench.due("its fault", x.fault(0), 1);
        Bench.due("its place", x.fault(1), 0);
        x.feed(0x6f696c20, 0x313b0a0a, 0, 0, 0);
        Bench.due("the highest byte first", x.text(8), 1);
        Bench.due("all the tape goes", x.text(1), -2);
    }

    private static void telling() {
        LeanLatches x = Bench.door("latch a 1;latch b 0;push a 0;rust 60;");
        x.push(0);
        x.note(1, 0, true);
        x.known(0);
        x.keep();
        x.go(2);
        Bench.due("a text with a fault", Bench.tell(x, "latch q 5;"), -1);
        Bench.due("all stays: latches", x.count(0), 2);
        Bench.due("all stays: minute", x.count(4), 2);
        Bench.due("all stays: notes", x.count(10), 1);
        Bench.due("all stays: known", x.count(11), 0);
        Bench.due("all stays: sealed", x.row(1), 1);
        Bench.due("all stays: the image", x.back(), 0);
        x.force(1);
        Bench.due("a fault leaves what can be undone", Bench.tell(x, "latch q 5;"), -1);
        Bench.due("undo", x.undo(), 0);
        Bench.due("text beyond the tape", x.text(1), -2);
        Bench.due("fault stays at -2", x.fault(0), 2);
        x.force(1);
        Bench.due("a text that stands", Bench.tell(x, "latch c 1 ; \n"), 1);
        Bench.due("fault goes", x.fault(0), 0);
        int[] due = {1, 0, 0, 0, 0, 1, 0, 0, 0, 0, 0, 0, 0};
        for (int what = 0; what <= 12; what++) {
            Bench.due("anew count(" + what + ")", x.count(what), due[what]);
        }
        Bench.due("no image any more", x.back(), -1);
        Bench.due("fault(2)", x.fault(2), -1);
        Bench.due("fault(-1)", x.fault(-1), -1);
        x.note(0, 0, false);
        x.known(0);
        Bench.tell(x, "latch c 1;");
        x.note(0, 0, false);
        Bench.due("all are known anew", x.count(11), 1);
    }

    private static void standing() {
        Bench.fine("", 0, 0);
        Bench.fine("oil 1;oil 1;oil 99;oil 0;", 4, 0);
        Bench.fine("oil\n0001;", 1, 0);
        Bench.fine("oil1;rust2;seed00000099999;", 3, 0);
        Bench.fine("law eat 1<=2and not 3<>4or(5)>=6+worn*place/ups-seals;", 1, 20);
        Bench.fine("law seal high=tired and minute>0;law effort not not 1<2;", 2, 12);
        Bench.fine("latch a 1;latch b 0;lean a not(up b or down b)and many 8;lean b many 1;", 4, 7);
        Bench.fine("latch a 1;latch b 0;latch abcdef 0;lean b up abcdef;lean a as b and not as b;", 5, 5);
        Bench.fine("law eat ((((((((1))))))))+((((((((2))))))));", 1, 3);
        Bench.fine("law eat " + "not ".repeat(63) + "1;", 1, 64);
        Bench.fine("law eat 9999" + "+9999".repeat(31) + ";", 1, 63);
        // Two latches may lean on one another by up and down, and many leans on no single one.
        Bench.fine("latch a 1;latch b 0;lean a up b;lean b up a;", 4, 2);
        Bench.fine("latch a 1;latch b 0;lean a many 1;lean b as a;", 4, 2);
        Bench.fine("latch a 1;latch b 0;latch c 0;lean a up c;lean b as a;lean c up a;", 6, 3);
    }

    private static void wrongTokens() {
        Bench.faulty(1, "@latchs a 1;");
        Bench.faulty(1, "@;");
        Bench.faulty(1, "oil 1;@;");
        Bench.faulty(1, "latch @abcdefg 1;");
        Bench.faulty(1, "latch @latch 1;");
        Bench.faulty(1, "latch @worn 1;");
        Bench.faulty(1, "latch a@A 1;");
        Bench.faulty(1, "latch @1 1;");
        Bench.faulty(1, "latch a @b;");
        Bench.faulty(1, "latch a 1@a;");
        Bench.faulty(1, "oil @\t1;");
        Bench.faulty(1, "oil @-1;");
        Bench.faulty(1, "oil 1 @2;");
        Bench.faulty(1, "oil 1@,oil 2;");
        Bench.faulty(1, "rust @;");
        Bench.faulty(1, "seed @x;");
        Bench.faulty(1, "law @worn 1;");
        Bench.faulty(1, "law @x 1;");
        Bench.faulty(1, "law @7 1;");
        Bench.faulty(1, "push @9 9;");
        Bench.faulty(1, "lean @up up b;");
        Bench.faulty(1, "@worn 1;");
    }

    private static void wrongFormulas() {
        String two = "latch a 1;latch b 0;lean a ";
        Bench.faulty(1, two + "@;");
        Bench.faulty(1, two + "@b;");
        Bench.faulty(1, two + "up @;");
        Bench.faulty(1, two + "up @up;");
        Bench.faulty(1, two + "up @5;");
        Bench.faulty(1, two + "many @b;");
        Bench.faulty(1, two + "@1;");
        Bench.faulty(1, two + "@worn;");
        Bench.faulty(1, two + "up b @+ up b;");
        Bench.faulty(1, two + "up b @< up b;");
        Bench.faulty(1, two + "up b @up b;");
        Bench.faulty(1, two + "up b @not up b;");
        Bench.faulty(1, two + "up b @(up b);");
        Bench.faulty(1, two + "up b and @;");
        Bench.faulty(1, two + "(up b @;");
        Bench.faulty(1, two + "up b@);");
        Bench.faulty(1, two + "(@);");
        Bench.faulty(1, two + "up b and @or up b;");
        Bench.faulty(1, "law eat @;");
        Bench.faulty(1, "law eat @-1;");
        Bench.faulty(1, "law eat 1 @2;");
        Bench.faulty(1, "law eat 1 < 2 @< 3;");
        Bench.faulty(1, "law eat 1 < 2 + 3 * 4 @= 3;");
        Bench.faulty(1, "law eat 1 < @not 2;");
        Bench.faulty(1, "law eat 1 + @not 2;");
        Bench.faulty(1, "law eat 1 < @= 2;");
        Bench.faulty(1, "law eat 1 > @< 2;");
        Bench.faulty(1, "law eat 1 = @= 2;");
        Bench.faulty(1, "law eat 1 = @> 2;");
        Bench.faulty(1, "law eat 1 <> @= 2;");
        Bench.faulty(1, "law eat (1@;");
        Bench.faulty(1, "law eat 1@);");
        Bench.faulty(1, "law eat @up;");
        Bench.faulty(1, "law eat 1 @not 2;");
        Bench.faulty(1, "law eat 1 + @;");
        Bench.faulty(1, "law eat 1;@;");
    }

    private static void endings() {
        Bench.faulty(1, "latch@");
        Bench.faulty(1, "latch  @");
        Bench.faulty(1, "latch a@");
        Bench.faulty(1, "latch a 1@");
        Bench.faulty(1, "latch a 1 \n@");
        Bench.faulty(1, "law eat (1@");
        Bench.faulty(1, "law eat 1 <@");
        Bench.faulty(1, "law@");
        Bench.faulty(1, "latch a 1;lean a many@");
        Bench.faulty(1, "latch a 1;lean a many 1@");
    }

    private static void tooMuch() {
        Bench.faulty(2, "latch a @2;");
        Bench.faulty(2, "latch a @99999999999999999999999;");
        Bench.faulty(2, "latch a 1;lean a many @9;");
        Bench.faulty(2, "latch a 1;push a @100;");
        Bench.faulty(2, "oil @100;");
        Bench.faulty(2, "rust @101;");
        Bench.faulty(2, "seed @100000;");
        Bench.faulty(2, "law eat @10000;");
        Bench.faulty(2, "law eat ((((((((@(1);");
        Bench.faulty(2, "latch a 1;lean a ((((((((@(");
        Bench.faulty(2, "oil 1;oil 1;oil 1;oil 1;@oil");
        Bench.faulty(2, "latch a 1;" + "push a 1;".repeat(16) + "@push q 1;");
        Bench.faulty(2, Bench.latches(8, 0) + "@latch a 0;");
        String full = "law eat " + "not ".repeat(62) + "1";
        Bench.faulty(2, "law eat " + "not ".repeat(64) + "@1;");
        Bench.faulty(2, full + "+@1");
        Bench.faulty(2, full + " and @worn;");
        Bench.faulty(2, full + "<@1;");
        Bench.faulty(2, full + ";law seal 1 @+ 1;");
        Bench.faulty(2, "latch a 1;latch b 1;" + full + ";lean a up b @and up b;");
        Bench.faulty(2, "latch a 1;latch b 1;" + full + ";lean a up b;lean b @up q;");
        // What can't stand is told so, though it would be too much, too.
        Bench.faulty(1, full + "+@+");
        Bench.faulty(1, "law eat ((((((((1@(");
    }

    private static void toldAlready() {
        Bench.faulty(3, "latch a 1;latch @a 2;");
        Bench.faulty(3, "latch a 1;latch b 1;lean a up b;lean @a up q;");
        Bench.faulty(3, "rust 1;@rust 1;");
        Bench.faulty(3, "seed 1;@seed x;");
        Bench.faulty(3, "law eat 1;law @eat 1;");
        Bench.faulty(3, "law effort 1;law seal 1;law @effort 1;");
    }

    private static void notTold() {
        Bench.faulty(4, "lean @a up b;");
        Bench.faulty(4, "push @a 1;latch a 1;");
        Bench.faulty(4, "latch a 1;lean a up @b;");
        Bench.faulty(4, "latch a 1;lean a down @b;latch b 1;");
        Bench.faulty(4, "latch a 1;lean a as @a;");
        Bench.faulty(4, "latch a 1;lean a as @b;");
        Bench.faulty(4, "latch a 1;latch b 1;lean a as @b;lean b up a;");
    }

    private static void onItself() {
        String three = "latch a 1;latch b 1;latch c 1;";
        Bench.faulty(5, "latch a 1;lean a up @a;");
        Bench.faulty(5, "latch a 1;lean a not (many 1 and down @a);");
        Bench.faulty(5, three + "lean a up b;lean b as @a;");
        Bench.faulty(5, three + "lean a up c;lean b as a;lean c as @b;");
        Bench.faulty(5, three + "lean a many 1 or down c;lean b up a and as a;lean c as @b;");
    }

    private static void names() {
        LeanLatches x = Bench.door("latch a 1;latch zzzzzz 0;latch ab 1;latch abc 1;");
        Bench.due("named a", x.named(Bench.letters("a")), 0);
        Bench.due("named zzzzzz", x.named(Bench.letters("zzzzzz")), 1);
        Bench.due("named ab", x.named(Bench.letters("ab")), 2);
        Bench.due("named abc", x.named(Bench.letters("abc")), 3);
        Bench.due("named b", x.named(Bench.letters("b")), -1);
        Bench.due("named 0", x.named(0), -1);
        Bench.due("named 1", x.named(1), -1);
        Bench.due("named by bits beyond", x.named(1 << 30 | 1 << 25), -1);
        Bench.due("named below 0", x.named(Integer.MIN_VALUE | 1 << 25), -1);
        Bench.tell(x, "latch b 0;");
        Bench.due("named a of another text", x.named(Bench.letters("a")), -1);
        Bench.due("named b", x.named(Bench.letters("b")), 0);
    }
}
