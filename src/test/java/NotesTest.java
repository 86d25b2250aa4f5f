/** Promises 30 to 34: note, strike, known, fits, ask. */
public final class NotesTest {
    public static void main(String[] args) {
        notes();
        strikes();
        knowing();
        fitting();
        asking();
        Bench.end("NotesTest");
    }

    private static void notes() {
        LeanLatches x = Bench.door("latch a 0;latch b 0;");
        Bench.due("note(4, 0, true)", x.note(4, 0, true), -1);
        Bench.due("note(-1, 0, true)", x.note(-1, 0, true), -1);
        Bench.due("note(0, 2, true)", x.note(0, 2, true), -1);
        Bench.due("note(0, -1, true)", x.note(0, -1, true), -1);
        Bench.due("strike(0) of none", x.strike(0), -1);
        for (int i = 0; i < 23; i++) {
            Bench.due("note " + i, x.note(3, 1, true), i);
        }
        Bench.due("strike(23)", x.strike(23), -1);
        Bench.due("strike(-1)", x.strike(-1), -1);
        Bench.due("strike(22)", x.strike(22), 23);
        Bench.due("a 25th note", x.note(3, 1, true), -1);
        Bench.due("a 25th strike", x.strike(0), -1);
        Bench.due("count(10)", x.count(10), 24);
    }

    private static void strikes() {
        LeanLatches x = Bench.door("latch a 0;latch b 0;latch c 0;");
        Bench.due("fits(0) at first", x.fits(0), 0b1111001);
        x.note(2, 0, true);
        Bench.due("b up, c down, or nothing", x.fits(0), 0b1001001);
        x.strike(0);
        Bench.due("struck", x.fits(0), 0b1111001);
        x.strike(1);
        Bench.due("the strike is struck", x.fits(0), 0b1001001);
        x.strike(2);
        Bench.due("and that one", x.fits(0), 0b1111001);
        x.strike(0);
        x.strike(3);
        Bench.due("struck twice, one strike is left", x.fits(0), 0b1111001);
        x.strike(4);
        Bench.due("none is left", x.fits(0), 0b1001001);
    }

    private static void knowing() {
        LeanLatches x = Bench.door("latch a 0;latch b 0;latch c 0;");
        x.note(2, 0, true);
        x.note(0, 0, false);
        x.strike(0);
        Bench.due("known(0)", x.known(0) ? 1 : 0, 1);
        Bench.due("by none", x.fits(0), 0b1111001);
        x.known(1);
        Bench.due("by one", x.fits(0), 0b1001001);
        Bench.due("count(11)", x.count(11), 1);
        x.known(2);
        Bench.due("by two", x.fits(0), 0b0001000);
        Bench.due("known(3)", x.known(3) ? 1 : 0, 1);
        Bench.due("by three", x.fits(0), 0b0101000);
        x.note(7, 0, false);
        Bench.due("not by those to come", x.fits(0), 0b0101000);
        Bench.due("known(5)", x.known(5) ? 1 : 0, 0);
        Bench.due("known(-2)", x.known(-2) ? 1 : 0, 0);
        Bench.due("as it was", x.count(11), 3);
        Bench.due("known(-1)", x.known(-1) ? 1 : 0, 1);
        Bench.due("by all", x.fits(0), 0);
        x.note(0, 1, true);
        Bench.due("also by those to come", x.count(11), 5);
    }

    private static void fitting() {
        LeanLatches x = Bench.door("latch a 0;latch b 0;lean a down b;");
        Bench.due("what is told isn't looked at", x.fits(0), 0b11001);
        x.note(0, 0, false);
        Bench.due("b up", x.fits(0), 0b01000);
        Bench.due("another latch", x.fits(1), 0b00111);
        x.seal(0);
        Bench.due("sealed ones, too", x.fits(0), 0b01000);
        Bench.due("fits(2)", x.fits(2), -1);
        Bench.due("fits(-1)", x.fits(-1), -1);
        x = Bench.door("latch a 0;latch b 0;latch c 0;latch d 0;latch e 0;latch f 0;latch g 0;latch h 0;");
        Bench.due("fits of eight", x.fits(7), 0b111111111111111);
        Bench.due("fits of eight", x.fits(0), 0b11111111111111001);
    }

    private static void asking() {
        LeanLatches x = Bench.door("latch a 0;latch b 0;latch c 0;");
        // Of nothing, b up, b down, c up, c down each row leaves three or two.
        Bench.due("ask(0, 0)", x.ask(0, 0), 0);
        Bench.due("ask(0, 1)", x.ask(0, 1), 3);
        x.note(0, 0, true);
        // Of nothing, b down, c down the row with b up leaves two, that with both up leaves two.
        Bench.due("ask(0, 0) then", x.ask(0, 0), 2);
        Bench.due("ask(0, 1) then", x.ask(0, 1), 2);
        x.note(6, 0, false);
        Bench.due("ask(0, 0) of two", x.ask(0, 0), 2);
        Bench.due("ask(0, 1) of two", x.ask(0, 1), 1);
        x.note(2, 0, false);
        x.note(4, 0, false);
        Bench.due("none fits", x.fits(0), 0);
        Bench.due("ask(0, 0) of none", x.ask(0, 0), 0);
        Bench.due("ask(0, 1) of none", x.ask(0, 1), 0);
        Bench.due("ask(3, 0)", x.ask(3, 0), -1);
        Bench.due("ask(-1, 0)", x.ask(-1, 0), -1);
        Bench.due("ask(0, 2)", x.ask(0, 2), -1);
        Bench.due("ask(0, -1)", x.ask(0, -1), -1);
    }
}
