import java.util.List;

/** The document's "Terms", sentence by sentence: the edges of what a TEXT may tell, and each FAULT at its place. */
public final class TermsTest {
    private static final String AB = "latch a 1;latch b 0;";
    private static final String ABC = "latch a 1;latch b 0;latch c 0;";
    private static final String[] LANGUAGE = {"latch", "lean", "push", "oil", "rust", "seed", "law", "effort", "seal",
        "eat", "or", "and", "not", "up", "down", "many", "as", "worn", "place", "ups", "seals", "high", "tired",
        "minute"};
    private static final String[] SIGNS = {"+", "-", "*", "/", "<", "<=", "=", "<>", ">=", ">"};
    /** Numbers that would be small ones again, if what is above 32 or 64 bits were lost. */
    private static final String[] WRAPPED = {"2147483648", "4294967296", "4294967297", "8589934593",
        "9223372036854775808", "18446744073709551616", "18446744073709551617", "100000000000000000000000000000"};

    public static void main(String[] args) {
        texts();
        letters();
        wordsOfTheLanguage();
        digits();
        blanks();
        otherBytes();
        signsOfTwo();
        whatCanStandInE();
        whatCanStandInF();
        latches();
        leanings();
        many();
        pushes();
        oils();
        rustAndSeed();
        numbersOfE();
        firstAlongTheText();
        leastOfOnePlace();
        whereMoreMustCome();
        linesTooMany();
        brackets();
        knots();
        knotsOfEachKind();
        toldAlready();
        notToldAhead();
        onItself();
        Bench.end("TermsTest");
    }

    private static void texts() {
        Bench.says("A TEXT: { LINE ';' }: empty");
        Bench.fine("", 0, 0);
        Bench.fine(" \n \n", 0, 0);
        Bench.says("A TEXT: { LINE ';' }: a LINE without ';', a ';' without a LINE");
        Bench.faulty(1, "oil 1@");
        Bench.faulty(1, "oil 1 @oil 2;");
        Bench.faulty(1, "@;");
        Bench.faulty(1, "oil 1;@;");
        Bench.says("A TEXT: all LINES that there may be, 41");
        StringBuilder full = new StringBuilder(Bench.latches(8, 0));
        for (char c = 'a'; c <= 'h'; c++) {
            full.append("lean ").append(c).append(" many 0;");
        }
        full.append("push a 0;".repeat(16)).append("oil 1;".repeat(4)).append("rust 0;seed 0;");
        full.append("law effort 1;law seal 1;law eat 1;");
        Bench.fine(full.toString(), 41, 11);
        Bench.says("A TEXT as long as the TAPE, and as long with a FAULT at its last byte");
        String longest = " ".repeat(694) + "oil 9;";
        Bench.fine(longest, 1, 0);
        Bench.faulty(1, " ".repeat(694) + "oil 9@,");
        Bench.faulty(1, " ".repeat(695) + "oil 9@");
    }

    private static void letters() {
        Bench.says("W: one of 1 .. 6 letters; a word of more than 6 letters that isn't of the language");
        Bench.fine("latch z 0;", 1, 0);
        Bench.fine("latch zzzzzz 0;", 1, 0);
        Bench.faulty(1, "latch @zzzzzzz 0;");
        Bench.faulty(1, "latch @" + "z".repeat(600) + " 0;");
        Bench.faulty(1, "latch @0;");
        Bench.faulty(1, AB + "lean @aaaaaaa up b;");
        Bench.faulty(1, AB + "push @aaaaaaa 0;");
        Bench.faulty(1, AB + "lean a up @bbbbbbb;");
        Bench.faulty(1, AB + "lean a down @bbbbbbb;");
        Bench.faulty(1, AB + "lean a as @bbbbbbb;");
        Bench.faulty(1, "@latches a 1;");
        Bench.faulty(1, "law @efforts 1;");
        Bench.says("W: letters behind the sixth don't count as none");
        Bench.faulty(1, "latch abcdef 0;push @abcdefg 0;");
        Bench.says("W: the same letters, more or fewer of them, are another name");
        Bench.fine("latch a 0;latch aa 0;latch aaa 0;latch aaaa 0;latch aaaaa 0;latch aaaaaa 0;", 6, 0);
    }

    private static void wordsOfTheLanguage() {
        Bench.says("W: none of those of the language");
        for (String word : LANGUAGE) {
            Bench.faulty(1, "latch @" + word + " 1;");
            Bench.faulty(1, "lean @" + word + " up b;");
            Bench.faulty(1, "push @" + word + " 1;");
            Bench.faulty(1, AB + "lean a up @" + word + ";");
            Bench.faulty(1, AB + "lean a as @" + word + ";");
        }
        Bench.says("W: a word that only begins as one of the language, or goes on behind one");
        for (String word : LANGUAGE) {
            String shorter = word.substring(0, word.length() - 1);
            if (!List.of(LANGUAGE).contains(shorter)) {
                Bench.fine("latch " + shorter + " 1;push " + shorter + " 0;", 2, 0);
            }
            if (word.length() < 6) {
                Bench.fine("latch " + word + "z 1;push " + word + "z 0;", 2, 0);
            }
        }
        Bench.says("LAW: effort | seal | eat, and no other word; a LINE begins by its own words alone");
        for (String word : LANGUAGE) {
            if (!List.of("effort", "seal", "eat").contains(word)) {
                Bench.faulty(1, "law @" + word + " 1;");
            }
            if (!List.of("latch", "lean", "push", "oil", "rust", "seed", "law").contains(word)) {
                Bench.faulty(1, "@" + word + " 1;");
            }
        }
        Bench.says("NAME: worn place ups seals high tired minute, and no other word");
        for (String word : LANGUAGE) {
            if (List.of("worn", "place", "ups", "seals", "high", "tired", "minute").contains(word)) {
                Bench.fine("law eat " + word + ";", 1, 1);
            } else if (!word.equals("not")) {
                Bench.faulty(1, "law eat @" + word + ";");
            }
            if (!List.of("not", "up", "down", "many", "as").contains(word)) {
                Bench.faulty(1, AB + "lean a @" + word + ";");
            }
        }
    }

    private static void digits() {
        Bench.says("N: digits, as many as there are: 0 ahead of them");
        Bench.fine("latch a 0000000001;", 1, 0);
        Bench.fine("oil " + "0".repeat(600) + "99;", 1, 0);
        Bench.faulty(2, "oil @" + "0".repeat(600) + "100;");
        Bench.says("a number beyond what is said, however far");
        for (String number : WRAPPED) {
            Bench.faulty(2, "latch a @" + number + ";");
            Bench.faulty(2, "latch a 1;lean a many @" + number + ";");
            Bench.faulty(2, "latch a 1;push a @" + number + ";");
            Bench.faulty(2, "oil @" + number + ";");
            Bench.faulty(2, "rust @" + number + ";");
            Bench.faulty(2, "seed @" + number + ";");
            Bench.faulty(2, "law eat @" + number + ";");
        }
        Bench.faulty(2, "seed @" + "9".repeat(600) + ";");
        Bench.says("N: digits, none of which is a sign or a letter");
        Bench.faulty(1, "oil @-0;");
        Bench.faulty(1, "oil @+1;");
        Bench.faulty(1, "oil 1@e;");
        Bench.faulty(1, "oil @a1;");
        Bench.faulty(1, "oil 1@.0;");
        Bench.faulty(1, "oil @;");
    }

    private static void blanks() {
        Bench.says("Blanks 10, 32");
        Bench.fine("\n latch\n a \n1\n;\nlean a\nnot (\nmany 1 or many\n2 )\n;\n \n", 2, 4);
        Bench.fine("law eat(1+2)*3<4and(worn)or not 5;", 1, 12);
        Bench.says("Blanks: none is wanted between a word and digits");
        Bench.fine("latch a1;push a0;oil9;rust8;seed7;lean a many0;", 6, 1);
        Bench.says("Blanks: words and digits end by them");
        Bench.faulty(1, "@la tch a 1;");
        Bench.faulty(1, "oil 1 @2;");
        Bench.says("Blanks: others are TOKENS that are none");
        for (char blank : new char[] {0, 9, 11, 12, 13, 31, 33, 133, 160}) {
            Bench.faulty(1, "oil @" + blank + "1;");
            Bench.faulty(1, "@" + blank);
        }
    }

    private static void otherBytes() {
        Bench.says("1 a TOKEN that is none: each byte, where a LINE may begin");
        for (char c = 0; c < 256; c++) {
            if (c != 10 && c != 32) {
                Bench.faulty(1, "oil 1;@" + c);
            }
        }
        Bench.says("1 a TOKEN that is none: each byte behind a number");
        for (char c = 0; c < 256; c++) {
            if (";()<=>+-*/0123456789\n ".indexOf(c) < 0) {
                Bench.faulty(1, "law eat 1@" + c + "2;");
                Bench.faulty(1, "law eat 1 @" + c + " 2;");
            }
        }
        Bench.says("Words: small letters");
        Bench.faulty(1, "@Latch a 1;");
        Bench.faulty(1, "@LATCH a 1;");
        Bench.faulty(1, "latch @A 1;");
        Bench.faulty(1, "latch a@B 1;");
        Bench.faulty(1, "latch @" + (char) 228 + " 1;");
    }

    private static void signsOfTwo() {
        Bench.says("A = (or > behind <) right behind < or > belongs to it");
        for (String sign : SIGNS) {
            Bench.fine("law eat 1" + sign + "2;", 1, 3);
        }
        Bench.says("A = right behind: not behind a blank");
        Bench.faulty(1, "law eat 1 < @= 2;");
        Bench.faulty(1, "law eat 1 < @> 2;");
        Bench.faulty(1, "law eat 1 > @= 2;");
        Bench.faulty(1, "law eat 1 <\n@= 2;");
        Bench.says("= behind =, < behind >, > behind >, < behind < don't belong to it");
        for (String two : new String[] {"=@=", "=@<", "=@>", ">@<", ">@>", "<@<", "<=@=", "<=@>", "<>@=", "<>@>",
            ">=@=", ">@>=", "<@<=", "=@>="}) {
            Bench.faulty(1, "law eat 1" + two + "2;");
        }
        Bench.says("A sign of two at the end of the text");
        Bench.faulty(1, "law eat 1<@");
        Bench.faulty(1, "law eat 1<=@");
        Bench.faulty(1, "law eat 1>@");
        LeanLatches x = new LeanLatches();
        Bench.feed(x, "law eat 1<=2;");
        Bench.due("text(10), the = isn't of it", x.text(10), -1);
        Bench.due("its place", x.fault(1), 10);
    }

    private static void whatCanStandInE() {
        Bench.says("C: S [ ( < | <= | = | <> | >= | > ) S ]: one of these at most");
        for (String sign : List.of("<", "<=", "=", "<>", ">=", ">")) {
            Bench.faulty(1, "law eat 1 = 2 @" + sign + " 3;");
            Bench.faulty(1, "law eat 1 " + sign + " 2 @= 3;");
            Bench.faulty(1, "law eat 0 or (1 " + sign + " 2 + 4 * 5 @> 3);");
            Bench.fine("law eat (1 " + sign + " 2) = 3;", 1, 5);
            Bench.fine("law eat 1 " + sign + " 2 and 3 " + sign + " 4 or not 5 " + sign + " 6;", 1, 12);
        }
        Bench.says("B: not B | C: not behind a comparison, a sign, a value");
        for (String sign : SIGNS) {
            Bench.faulty(1, "law eat 1 " + sign + " @not 2;");
            Bench.faulty(1, "law eat 0 and (3 or 1 " + sign + " @not 2);");
            Bench.fine("law eat 1 " + sign + " (not 2);", 1, 4);
        }
        Bench.faulty(1, "law eat 1 @not 2;");
        Bench.faulty(1, "law eat (1) @not 2;");
        Bench.fine("law eat not not 1 and not not 2 or not (not 3);", 1, 11);
        Bench.says("U: N | NAME | '(' E ')': one must stand behind each sign, each word, none behind another");
        for (String sign : SIGNS) {
            Bench.faulty(1, "law eat @" + sign + " 1;");
            Bench.faulty(1, "law eat 1 " + sign + " @;");
            Bench.faulty(1, "law eat (1 " + sign + " @);");
            Bench.faulty(1, "law eat not @" + sign + " 1;");
        }
        for (String word : List.of("and", "or")) {
            Bench.faulty(1, "law eat @" + word + " 1;");
            Bench.faulty(1, "law eat 1 " + word + " @;");
            Bench.faulty(1, "law eat 1 " + word + " @and 1;");
            Bench.faulty(1, "law eat not @" + word + " 1;");
        }
        Bench.faulty(1, "law eat 1 @worn;");
        Bench.faulty(1, "law eat worn @1;");
        Bench.faulty(1, "law eat 1 @(2);");
        Bench.faulty(1, "law eat (1) @(2);");
        Bench.faulty(1, "law eat not @;");
    }

    private static void whatCanStandInF() {
        Bench.says("F has no signs, no comparisons, no N, no NAME");
        for (String sign : SIGNS) {
            Bench.faulty(1, AB + "lean a up b @" + sign + " up b;");
            Bench.faulty(1, AB + "lean a @" + sign + " up b;");
            Bench.faulty(1, AB + "lean a many 1 and (up b @" + sign + " up b);");
        }
        Bench.faulty(1, AB + "lean a @1;");
        Bench.faulty(1, AB + "lean a @b;");
        Bench.faulty(1, AB + "lean a up b or @worn;");
        Bench.says("H: not H | P: one must stand behind each word, none behind another");
        Bench.faulty(1, AB + "lean a not @;");
        Bench.faulty(1, AB + "lean a up b @not up b;");
        Bench.faulty(1, AB + "lean a up b @up b;");
        Bench.faulty(1, AB + "lean a (up b) @(up b);");
        Bench.faulty(1, AB + "lean a up b and @;");
        Bench.faulty(1, AB + "lean a up b or @and up b;");
        Bench.faulty(1, AB + "lean a @or up b;");
        Bench.fine(AB + "lean a not not up b and not (down b or not many 1);", 3, 9);
        Bench.says("P: up W | down W | many N | as W: each with what belongs to it");
        for (String word : List.of("up", "down", "as")) {
            Bench.faulty(1, AB + "lean a " + word + " @;");
            Bench.faulty(1, AB + "lean a " + word + " @1;");
            Bench.faulty(1, AB + "lean a " + word + " @(b);");
            Bench.faulty(1, AB + "lean a " + word + " @not b;");
        }
        Bench.faulty(1, AB + "lean a many @;");
        Bench.faulty(1, AB + "lean a many @b;");
        Bench.faulty(1, AB + "lean a many @(1);");
    }

    private static void latches() {
        Bench.says("LATCHES, at most 8: none, eight, a ninth (at the word of the LINE)");
        Bench.fine("rust 1;", 1, 0);
        Bench.fine(Bench.latches(8, 1), 8, 0);
        Bench.faulty(2, Bench.latches(8, 1) + "@latch i 1;");
        Bench.faulty(2, Bench.latches(8, 1) + "@latch");
        Bench.says("LATCHES: 0 (down), 1 (up) at first");
        Bench.due("down", Bench.door("latch a 0;").row(0), 0);
        Bench.due("up", Bench.door("latch a 1;").row(0), 1);
        Bench.due("eight up", Bench.door(Bench.latches(8, 1)).row(0), 255);
        Bench.faulty(2, "latch a @2;");
    }

    private static void leanings() {
        Bench.says("lean: what a LATCH LEANS on (each at most once)");
        Bench.fine(AB + "lean a up b;lean b down a;", 4, 2);
        Bench.faulty(3, AB + "lean a up b;lean @a up b;");
        Bench.says("up, down: another LATCH is so");
        Bench.faulty(5, AB + "lean a up @a;");
        Bench.faulty(5, AB + "lean a down @a;");
        Bench.says("as: what another LATCH, told to LEAN ahead of it, LEANS on");
        Bench.fine(AB + "lean b up a;latch c 0;lean c as b;", 5, 2);
        Bench.faulty(4, ABC + "lean c as @b;lean b up a;");
    }

    private static void many() {
        Bench.says("many: so many 0 .. 8 others");
        Bench.fine("latch a 1;lean a many 0;", 2, 1);
        Bench.fine("latch a 1;lean a many 8;", 2, 1);
        Bench.faulty(2, "latch a 1;lean a many @9;");
        Bench.says("many 0: in each ROW; many of more than there are: in none");
        LeanLatches x = Bench.door(Bench.latches(8, 1) + "lean a many 0;lean b many 7;lean c many 8;");
        Bench.due("many 0 in row 0", x.could(0, 0), 1);
        Bench.due("many 0 in row 255", x.could(255, 0), 1);
        Bench.due("many 7 of seven others", x.could(255, 1), 1);
        Bench.due("many 7, itself down", x.could(253, 1), 1);
        Bench.due("many 7 of six others", x.could(254, 1), 0);
        Bench.due("many 8 of all", x.could(255, 2), 0);
    }

    private static void pushes() {
        Bench.says("PUSHES, at most 16: a 17th (at the word of the LINE)");
        Bench.fine("latch a 1;" + "push a 1;".repeat(16), 17, 0);
        Bench.faulty(2, "latch a 1;" + "push a 1;".repeat(16) + "@push a 1;");
        Bench.faulty(2, "latch a 1;" + "push a 1;".repeat(16) + "@push");
        Bench.says("PUSHES: a MINUTE 0 .. 99");
        Bench.fine("latch a 1;push a 0;push a 99;", 3, 0);
        Bench.faulty(2, "latch a 1;push a @100;");
    }

    private static void oils() {
        Bench.says("oil, at most 4: a fifth (at the word of the LINE)");
        Bench.fine("oil 1;".repeat(4), 4, 0);
        Bench.faulty(2, "oil 1;".repeat(4) + "@oil 1;");
        Bench.faulty(2, "oil 1;".repeat(4) + "@oil");
        Bench.says("oil: a MINUTE 0 .. 99");
        Bench.fine("oil 0;oil 99;", 2, 0);
        Bench.faulty(2, "oil @100;");
    }

    private static void rustAndSeed() {
        Bench.says("rust: of a hundred 0 .. 100 (0)");
        Bench.fine("rust 0;", 1, 0);
        Bench.fine("rust 100;", 1, 0);
        Bench.faulty(2, "rust @101;");
        Bench.due("rust that isn't told", Bench.door("").holds(1, 0), 1);
        Bench.due("rust 100", Bench.door("rust 100;").holds(1, 0), 0);
        Bench.says("seed: 0 .. 99999 (0)");
        Bench.fine("seed 0;", 1, 0);
        Bench.fine("seed 99999;", 1, 0);
        Bench.faulty(2, "seed @100000;");
        String eight = Bench.latches(8, 0) + "push a 0;push b 0;push c 0;push d 0;push e 0;push f 0;push g 0;push h 0;"
            + "rust 50;";
        Bench.due("a seed that isn't told", sealedBehindMinute(eight), sealedOfEight(0));
        Bench.due("seed 0", sealedBehindMinute(eight + "seed 0;"), sealedOfEight(0));
        Bench.due("seed 99999", sealedBehindMinute(eight + "seed 99999;"), sealedOfEight(99999));
        Bench.says("seed (0): though another one was told before");
        LeanLatches x = Bench.door(eight + "seed 99999;");
        for (int time = 0; time < 3; time++) {
            Bench.tell(x, eight);
            x.go(1);
            Bench.due("row(1)", x.row(1), sealedOfEight(0));
        }
    }

    private static int sealedBehindMinute(String text) {
        LeanLatches x = Bench.door(text);
        x.go(1);
        return x.row(1);
    }

    private static int sealedOfEight(long seed) {
        long number = seed;
        int sealed = 0;
        for (int j = 0; j < 8; j++) {
            number = Bench.drawn(number);
            sealed |= Bench.ofHundred(number) < 50 ? 1 << j : 0;
        }
        return sealed;
    }

    private static void numbersOfE() {
        Bench.says("N of E 0 .. 9999");
        Bench.fine("latch a 1;law eat 0;", 2, 1);
        Bench.fine("latch a 1;law eat 9999;", 2, 1);
        Bench.faulty(2, "law eat @10000;");
        Bench.faulty(2, "law eat 1 + (2 * @10000);");
    }

    private static void firstAlongTheText() {
        Bench.says("FAULTS, the first along the text");
        Bench.faulty(2, "oil @100;lean q up q;$");
        Bench.faulty(4, "lean @q up 5;oil 100;");
        Bench.faulty(1, "oil @;oil 100;");
        Bench.faulty(3, "rust 1;@rust 101;");
        Bench.faulty(3, "latch a 1;latch @a 2;");
        Bench.faulty(5, AB + "lean a up @a and up q;");
        Bench.faulty(2, "oil 1;".repeat(4) + "@oil 100;");
        Bench.faulty(2, Bench.latches(8, 0) + "@latch a 2;");
        Bench.faulty(1, "latch a 1 @oil 100;");
        Bench.says("what stands behind the first n bytes isn't of the TEXT");
        LeanLatches x = new LeanLatches();
        Bench.feed(x, "oil 1;oil 100;");
        Bench.due("text(6)", x.text(6), 1);
        Bench.due("fault(0)", x.fault(0), 0);
    }

    private static void leastOfOnePlace() {
        Bench.says("of one place the least: 1 ahead of 2");
        String full = "law eat " + "not ".repeat(63) + "1";
        Bench.faulty(1, full + ";law seal @;");
        Bench.faulty(1, full + " @1;");
        Bench.faulty(1, full + " @not 1;");
        Bench.faulty(1, full + ";law seal @<;");
        Bench.faulty(1, "law eat " + "not ".repeat(64) + "@and 1;");
        Bench.faulty(1, "law eat ((((((((1 @(");
        Bench.faulty(1, "latch a 1;lean a ((((((((many 1 @(");
        Bench.says("of one place the least: 4 ahead of 5, as a LATCH behind as is itself");
        Bench.faulty(4, AB + "lean a up b and as @a;");
    }

    private static void whereMoreMustCome() {
        Bench.says("(the length, if more must come): behind each TOKEN but the last one of a LINE");
        String[] tokens = {"latch", "a", "1", ";", "latch", "b", "0", ";", "lean", "a", "not", "(", "up", "b", "or",
            "many", "1", ")", "and", "down", "b", ";", "lean", "b", "many", "2", ";", "push", "a", "5", ";", "oil", "1",
            ";", "rust", "2", ";", "seed", "3", ";", "law", "effort", "1", "+", "worn", "*", "(", "2", "<=", "3", ")",
            ";"};
        StringBuilder text = new StringBuilder();
        int lines = 0;
        for (String token : tokens) {
            text.append(token);
            if (token.equals(";")) {
                lines++;
                LeanLatches x = new LeanLatches();
                Bench.due("text of " + text, Bench.tell(x, text.toString()), lines);
            } else {
                Bench.faulty(1, text + "@");
                Bench.faulty(1, text + " \n @");
            }
            text.append(' ');
        }
    }

    private static void linesTooMany() {
        Bench.says("2 a ninth latch and so on: told LINES of other words don't count");
        Bench.fine(Bench.latches(8, 0) + "push a 1;".repeat(16) + "oil 1;".repeat(4) + "rust 1;seed 1;", 30, 0);
        Bench.says("2 too much: of each TEXT anew");
        LeanLatches x = Bench.door(Bench.latches(8, 0) + "oil 1;".repeat(4) + "push a 1;".repeat(16) + "rust 1;seed 1;"
            + "law eat " + "not ".repeat(63) + "1;");
        Bench.due("once more", Bench.tell(x, Bench.latches(8, 0) + "oil 1;".repeat(4) + "push a 1;".repeat(16)
            + "rust 1;seed 1;law eat " + "not ".repeat(63) + "1;"), 31);
        Bench.due("a fault between", Bench.tell(x, Bench.latches(8, 0) + "law eat " + "not ".repeat(63) + "1;$"), -1);
        Bench.due("and once more", Bench.tell(x, Bench.latches(8, 0) + "oil 1;".repeat(4)
            + "rust 1;seed 1;law eat " + "not ".repeat(63) + "1;"), 15);
        Bench.due("knots", x.count(3), 64);
    }

    private static void brackets() {
        Bench.says("2 a ninth '(' open");
        Bench.fine("law eat ((((((((1))))))));", 1, 1);
        Bench.faulty(2, "law eat ((((((((@(1)))))))));");
        Bench.fine("latch a 1;lean a ((((((((many 1))))))));", 2, 1);
        Bench.faulty(2, "latch a 1;lean a ((((((((@(many 1)))))))));");
        Bench.says("a '(' that isn't open any more doesn't count");
        Bench.fine("law eat ((((((((1))))))))+((((((((2))))))))+(3);", 1, 5);
        Bench.fine("law eat (((((((" + "(1)+".repeat(9) + "2)))))));", 1, 19);
        Bench.faulty(2, "law eat ((((((((1)+(@(2))))))));");
        Bench.says("a '(' that isn't closed, a ')' that isn't open");
        Bench.faulty(1, "law eat ((1)@;");
        Bench.faulty(1, "law eat (1)@);");
        Bench.faulty(1, "law eat (@);");
        Bench.faulty(1, "latch a 1;lean a (many 1@;");
        Bench.faulty(1, "latch a 1;lean a many 1@);");
        Bench.faulty(1, "latch a 1;lean a (@);");
        Bench.says("a FAULT leaves no '(' open");
        LeanLatches x = new LeanLatches();
        Bench.due("eight open and no more", Bench.tell(x, "law eat (((((((("), -1);
        Bench.due("eight open anew", Bench.tell(x, "law eat ((((((((1))))))));"), 1);
        Bench.says("a FAULT amid F or E leaves nothing of it to the next TEXT");
        for (String part : List.of("law eat not not", "law eat 1 + 2 *", "law eat (1 < (2", "law eat 0 and not (7",
            "latch b 1;latch a 1;lean a not (up b and", "latch b 1;latch a 1;lean a not up",
            "law seal " + "not ".repeat(63) + "1;latch b 1;latch a 1;lean a up b")) {
            x = new LeanLatches();
            Bench.due(part, Bench.tell(x, part), -1);
            Bench.due("behind " + part, Bench.tell(x, "latch a 1;latch b 0;lean a many 1;law eat 5;"), 4);
            Bench.due("its knots", x.count(3), 2);
            Bench.due("its law", x.law(2, 0), 5);
            Bench.due("its leaning, row 2", x.could(2, 0), 1);
            Bench.due("its leaning, row 1", x.could(1, 0), 0);
        }
    }

    private static void knots() {
        Bench.says("a 65th KNOT of all F and E: 64 are none too many, brackets are none");
        Bench.fine("law eat (" + "not ".repeat(62) + "(1));law seal ((1));", 2, 64);
        Bench.faulty(2, "law eat (" + "not ".repeat(62) + "(1));law seal ((1)@+1);");
        Bench.says("a 65th KNOT: those of all LINES, F and E, count");
        String thirty = "law eat 1" + "+1".repeat(14) + ";law seal worn" + "*2".repeat(14) + ";";
        Bench.fine(AB + thirty + "lean a not many 1 and many 2;lean b as a;", 6, 63);
        Bench.faulty(2, AB + thirty + "lean a not many 1 and many 2;lean b as a or @as a;");
        Bench.says("a 65th KNOT is at its own TOKEN, not at the W behind");
        Bench.faulty(2, AB + "law eat " + "not ".repeat(63) + "1;lean a @up q;");
        Bench.says("the 64th KNOT's W may have its own FAULT");
        Bench.faulty(4, AB + "law eat " + "not ".repeat(62) + "1;lean a up @q;");
        Bench.says("LINES without F and E have no KNOTS");
        Bench.fine(AB + "push a 1;oil 2;rust 3;seed 4;", 6, 0);
    }

    private static void knotsOfEachKind() {
        Bench.says("KNOTS: up, down, many, as; N of E, NAMES, signs; not, and, or: one each");
        String full = ABC + "lean b up a;law eat " + "not ".repeat(62) + "1;";
        for (String leaf : new String[] {"up b", "down b", "many 1", "as b"}) {
            Bench.fine(ABC + "lean b up a;lean c " + leaf + ";", 5, 2);
            Bench.faulty(2, full + "lean c @" + leaf + ";");
        }
        String oneLeft = ABC + "lean b up a;law eat " + "not ".repeat(61) + "1;";
        Bench.fine(oneLeft + "lean c up b;", 6, 64);
        Bench.faulty(2, oneLeft + "lean c up b @and up b;");
        Bench.faulty(2, oneLeft + "lean c up b @or up b;");
        Bench.faulty(2, oneLeft + "lean c not @up b;");
        Bench.faulty(2, full + "lean c @not up b;");
        for (String leaf : new String[] {"7", "worn", "place", "ups", "seals", "high", "tired", "minute"}) {
            Bench.fine("law seal " + leaf + ";", 1, 1);
            Bench.faulty(2, full + "law seal @" + leaf + ";");
        }
        for (String sign : SIGNS) {
            Bench.faulty(2, oneLeft + "law seal 1 @" + sign + " 1;");
        }
        Bench.faulty(2, oneLeft + "law seal 1 @and 1;");
        Bench.faulty(2, oneLeft + "law seal 1 @or 1;");
        Bench.faulty(2, full + "law seal @not 1;");
    }

    private static void toldAlready() {
        Bench.says("3 told already: a name (at W)");
        Bench.faulty(3, "latch a 1;latch @a 1;");
        Bench.faulty(3, "latch abcdef 1;latch b 1;latch @abcdef 1;");
        Bench.says("3 told already: what a LATCH LEANS on (at the first W)");
        Bench.faulty(3, ABC + "lean a up b;lean b up a;lean @a many 1;");
        Bench.faulty(3, ABC + "lean a many 0;lean @a many 0;");
        Bench.says("3 told already: rust, seed (at the word)");
        Bench.faulty(3, "rust 0;@rust 0;");
        Bench.faulty(3, "seed 0;@seed 0;");
        Bench.faulty(3, "rust 0;seed 0;@rust");
        Bench.fine("rust 1;seed 1;", 2, 0);
        Bench.says("3 told already: a law of its LAW (at LAW)");
        Bench.faulty(3, "law effort 1;law @effort 1;");
        Bench.faulty(3, "law seal 1;law @seal 1;");
        Bench.faulty(3, "law eat 1;law effort 1;law seal 1;law @eat");
        Bench.says("3 told already: not by a TEXT ahead of this one");
        LeanLatches x = Bench.door(AB + "lean a up b;rust 1;seed 1;law eat 1;");
        Bench.due("the same once more", Bench.tell(x, AB + "lean a up b;rust 1;seed 1;law eat 1;"), 6);
        Bench.due("one with a fault", Bench.tell(x, "latch q 1;rust 1;seed 1;law eat 1;$"), -1);
        Bench.due("the same behind that", Bench.tell(x, "latch q 1;rust 1;seed 1;law eat 1;"), 4);
        Bench.says("push and oil of the same may be told more often");
        Bench.fine("latch a 1;push a 1;push a 1;oil 1;oil 1;", 5, 0);
    }

    private static void notToldAhead() {
        Bench.says("4 a LATCH that isn't told ahead (at W)");
        Bench.faulty(4, "lean @a up b;");
        Bench.faulty(4, "push @a 1;");
        Bench.faulty(4, "latch a 1;push @aa 1;latch aa 1;");
        Bench.faulty(4, "latch a 1;lean a up @b;latch b 1;");
        Bench.faulty(4, "latch a 1;lean a down @b;latch b 1;");
        Bench.faulty(4, "latch a 1;lean a as @b;latch b 1;");
        Bench.says("4 behind as one that isn't told to LEAN ahead");
        Bench.faulty(4, AB + "lean a as @b;");
        Bench.faulty(4, AB + "lean a as @b;lean b many 1;");
        Bench.says("4 behind as itself, too");
        Bench.faulty(4, AB + "lean a as @a;");
        Bench.faulty(4, AB + "lean a up b or as @a;");
        Bench.says("4 not by a TEXT ahead of this one");
        LeanLatches x = Bench.door(AB + "lean b up a;");
        Bench.due("a name of the text before", Bench.tell(x, "latch c 1;push a 0;"), -1);
        Bench.due("its fault", x.fault(0), 4);
        Bench.due("a leaning of the text before", Bench.tell(x, AB + "lean a as b;"), -1);
        Bench.due("its fault", x.fault(0), 4);
    }

    private static void onItself() {
        Bench.says("5 a LATCH that LEANS on itself (at W behind up, down)");
        Bench.faulty(5, "latch a 1;lean a up @a;");
        Bench.faulty(5, "latch a 1;lean a down @a;");
        Bench.faulty(5, AB + "lean b up a and (many 1 or not down @b);");
        Bench.says("5 behind as one that LEANS on it, by up, down of it (at W)");
        Bench.faulty(5, AB + "lean b up a;lean a as @b;");
        Bench.faulty(5, AB + "lean b down a;lean a as @b;");
        Bench.faulty(5, ABC + "lean b up c or not down a;lean a up c and as @b;");
        Bench.faulty(5, ABC + "lean b up a or up c;lean a as @b;");
        Bench.faulty(5, ABC + "lean b up a or up c;lean c as @b;");
        Bench.faulty(5, ABC + "lean a up b or down c;lean b as @a;");
        Bench.faulty(5, ABC + "lean a up b or down c;lean c as @a;");
        Bench.says("5 also by as of another one");
        Bench.faulty(5, ABC + "lean c up a;lean b as c;lean a as @b;");
        Bench.faulty(5, ABC + "lean a up c;lean b as a;lean c as @b;");
        Bench.faulty(5, ABC + "latch d 0;lean a up c;lean b as a or up d;lean c as @b;");
        Bench.faulty(5, ABC + "latch d 0;lean d down a;lean c as d;lean b many 1 or as c;lean a as @b;");
        Bench.says("5 not by many, not by up of one that LEANS on it");
        Bench.fine(AB + "lean b many 1;lean a as b;", 4, 2);
        Bench.fine(AB + "lean b up a;lean a up b;", 4, 2);
        Bench.fine(ABC + "lean c up a;lean b up c;lean a as b;", 6, 3);
        Bench.says("5 not by a TEXT ahead of this one");
        LeanLatches x = Bench.door(AB + "lean b up a;");
        for (int time = 0; time < 3; time++) {
            Bench.due("b leans otherwise", Bench.tell(x, AB + "lean b many 1;lean a as b;"), 4);
        }
    }
}
