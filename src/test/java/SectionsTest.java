/** The document's parts 2 to 4, sentence by sentence: the edges of pushes, minutes, moves, notes, undoing, images. */
public final class SectionsTest {
    private static final long ERROR = Long.MIN_VALUE;
    private static final String AB = "latch a 0;latch b 0;";

    public static void main(String[] args) {
        rows();
        movable();
        pushed();
        effort();
        effortAtMost();
        wornAtMost();
        sealing();
        eating();
        numbersBelow();
        noNumber();
        numbersWrapAround();
        minutes();
        names();
        values();
        errors();
        asItGoes();
        asItGoesWhateverWasAsked();
        ahead();
        when();
        byMovesAlone();
        shutIn();
        widest();
        pastAndMust();
        freeAndEase();
        game();
        fractions();
        notes();
        known();
        fits();
        ask();
        tried();
        undone();
        undoneTwenty();
        images();
        Bench.end("SectionsTest");
    }

    private static LeanLatches pushedOnce(String text) {
        LeanLatches x = Bench.door(text);
        x.push(0);
        return x;
    }

    private static void rows() {
        Bench.says("2. A ROW: which LATCHES are up (bits): none, the lowest, the highest, all");
        Bench.due("no latches", new LeanLatches().row(0), 0);
        Bench.due("the first one", Bench.door("latch a 1;latch b 0;").row(0), 1);
        Bench.due("the eighth one", Bench.door(Bench.latches(7, 0) + "latch h 1;").row(0), 128);
        Bench.due("all eight", Bench.door(Bench.latches(8, 1)).row(0), 255);
    }

    private static void movable() {
        Bench.says("2. it LEANS on nothing without");
        LeanLatches x = Bench.door(AB + "lean b up a;");
        for (int row = 0; row < 4; row++) {
            Bench.due("could(" + row + ", 0)", x.could(row, 0), 1);
        }
        Bench.says("2. many of others than the LATCH whose LINE it is");
        x = Bench.door(AB + "lean a many 1;");
        Bench.due("itself alone is up", x.could(1, 0), 0);
        Bench.due("another one is up", x.could(2, 0), 1);
        Bench.says("2. many of others, behind as, too");
        x = Bench.door(AB + "lean a many 1;lean b as a;");
        Bench.due("b alone is up", x.could(2, 1), 0);
        Bench.due("a alone is up", x.could(1, 1), 1);
        Bench.says("2. and it isn't SEALED");
        x = Bench.door(AB);
        x.seal(1);
        Bench.due("row(2)", x.row(2), 1);
        Bench.due("push(1)", x.push(1), -2);
        x.seal(0);
        Bench.due("row(2), all sealed", x.row(2), 0);
        x.seal(1);
        Bench.due("row(2), no more", x.row(2), 2);
    }

    private static void pushed() {
        Bench.says("2. it is up then, if it was down, down, if it was up");
        LeanLatches x = Bench.door("latch a 0;latch b 1;");
        Bench.due("push(0)", x.push(0), 2);
        Bench.due("row(0)", x.row(0), 3);
        Bench.due("push(1)", x.push(1), 1);
        Bench.due("row(0)", x.row(0), 1);
        Bench.says("2. Else it is in VAIN: as it LEANS, as it is SEALED; nothing else comes of it");
        x = Bench.door(AB + "lean b up a;push b 0;push a 1;rust 40;seed 1;");
        x.go(1);
        Bench.due("vain as it leans", x.count(8), 1);
        x.seal(0);
        x.go(1);
        Bench.due("vain as it is sealed", x.count(8), 2);
        Bench.due("effort, worn, the row", x.count(7) + x.count(9) + x.row(0), 0);
        Bench.due("sealed as before", x.row(1), 1);
    }

    private static int effortOf(String law) {
        return pushedOnce(AB + law).count(7);
    }

    private static void effort() {
        Bench.says("2. E of effort 0 .. 999");
        Bench.due("far below 0", effortOf("law effort 0-9999*9999;"), 0);
        Bench.due("-1", effortOf("law effort 0-1;"), 0);
        Bench.due("0", effortOf("law effort 0;"), 0);
        Bench.due("1", effortOf("law effort 1;"), 1);
        Bench.due("998", effortOf("law effort 998;"), 998);
        Bench.due("999", effortOf("law effort 999;"), 999);
        Bench.due("1000", effortOf("law effort 1000;"), 999);
        Bench.due("far above", effortOf("law effort 9999*9999;"), 999);
        Bench.due("law() answers E itself", Bench.door(AB + "law effort 1000;").law(0, 0), 1000);
        Bench.says("2. E of effort: 1 without, with an ERROR");
        Bench.due("without", effortOf(""), 1);
        Bench.due("/ by 0", effortOf("law effort 5/0;"), 1);
        Bench.due("too great", effortOf("law effort 9999*9999*9999*9999;"), 1);
        Bench.due("too small", effortOf("law effort 0-9999*9999*9999*9999;"), 1);
        Bench.says("2. E of effort, asked ahead of it");
        Bench.due("high", effortOf("law effort 10+high;"), 10);
        Bench.due("ups", effortOf("law effort 10+ups;"), 10);
        Bench.due("worn", effortOf("law effort 10+worn;"), 10);
        Bench.due("tired", effortOf("law effort 10+tired;"), 10);
        Bench.due("seals", effortOf("law effort 10+seals;law seal 1;"), 10);
    }

    /** Pushed 100 times, each by 999. */
    private static LeanLatches tired(String then) {
        LeanLatches x = Bench.door("latch a 0;push a 0;push a 1;law effort (worn<100)*999+(worn>=100)*" + then + ";");
        for (int i = 0; i < 100; i++) {
            x.push(0);
        }
        Bench.due("pushed 100 times", x.count(7), 99900);
        return x;
    }

    private static void effortAtMost() {
        Bench.says("2. EFFORT 99999 at most");
        LeanLatches x = tired("98");
        x.push(0);
        Bench.due("98 more", x.count(7), 99998);
        x.push(0);
        Bench.due("and 98", x.count(7), 99999);
        x = tired("99");
        x.push(0);
        Bench.due("99 more", x.count(7), 99999);
        x.push(0);
        Bench.due("and no more", x.count(7), 99999);
        Bench.due("worn goes on", x.count(9), 102);
        x = tired("100");
        x.push(0);
        Bench.due("100 more", x.count(7), 99999);
        Bench.says("2. EFFORT 99999 at most, in MINUTES, AHEAD, TRIED, too");
        x = tired("999");
        Bench.due("ahead(1, 1)", x.ahead(1, 1), 99);
        Bench.due("ahead(2, 1)", x.ahead(2, 1), 99);
        Bench.due("tried(4, 0, 2)", x.tried(4, 0, 2), 99);
        x.go(1);
        Bench.due("behind a minute", x.count(7), 99999);
        Bench.due("ahead(1, 1) then", x.ahead(1, 1), 0);
        Bench.due("tried(0, 0, 1) then", x.tried(0, 0, 1), 0);
    }

    /** No run of 512 calls wears a LATCH 999 times; this is what stands behind them. */
    private static void wornAtMost() {
        Bench.says("2. it is WORN once more, 999 at most");
        LeanLatches x = Bench.door(AB + "law effort worn;");
        for (int i = 0; i < 998; i++) {
            x.push(0);
        }
        Bench.due("998 times", x.latch(0, 3), 998);
        x.push(0);
        Bench.due("999 times", x.latch(0, 3), 999);
        x.push(0);
        Bench.due("1000 times", x.latch(0, 3), 999);
        Bench.due("worn", x.law(0, 0), 999);
        Bench.due("in sum", x.count(9), 999);
        Bench.says("2. it is WORN: that LATCH alone");
        x.push(1);
        Bench.due("the other one", x.latch(1, 3), 1);
        Bench.due("in sum", x.count(9), 1000);
    }

    private static int sealedBy(String law) {
        return pushedOnce(AB + law).row(1);
    }

    private static void sealing() {
        Bench.says("2. if E of seal isn't 0");
        Bench.due("0", sealedBy("law seal 0;"), 0);
        Bench.due("1", sealedBy("law seal 1;"), 1);
        Bench.due("-1", sealedBy("law seal 0-1;"), 1);
        Bench.due("10 to the 12", sealedBy("law seal 1000*1000*1000*1000;"), 1);
        Bench.says("2. E of seal: 0 without, with an ERROR");
        Bench.due("without", sealedBy(""), 0);
        Bench.due("/ by 0", sealedBy("law seal 1/0;"), 0);
        Bench.due("too great", sealedBy("law seal 1000*1000*1000*1000+1;"), 0);
        Bench.says("2. E of seal, asked behind that, worn with this time");
        Bench.due("worn", sealedBy("law seal worn=1;"), 1);
        Bench.due("high", sealedBy("law seal high=1;"), 1);
        Bench.due("ups", sealedBy("law seal ups=1;"), 1);
        Bench.due("tired", sealedBy("law effort 7;law seal tired=7;"), 1);
        Bench.due("seals: not with this one", sealedBy("law seal seals=0;"), 1);
        Bench.due("seals: not with this one", sealedBy("law seal seals;"), 0);
    }

    private static void eating() {
        Bench.says("2. E of eat (as E of seal): asked behind that, worn with this time");
        Bench.due("worn", sealedBy("law eat (worn=1)*100;"), 1);
        Bench.due("high", sealedBy("law eat (high=1)*100;"), 1);
        Bench.due("seals: not by E of seal either", sealedBy("law seal 1;law eat (seals=0)*100;"), 1);
        Bench.says("2. E of eat: rust without, with an ERROR");
        Bench.due("without, rust 100", sealedBy("rust 100;"), 1);
        Bench.due("without, no rust", sealedBy(""), 0);
        Bench.due("with an ERROR, rust 100", sealedBy("rust 100;law eat 1/0;"), 1);
        Bench.due("with an ERROR, rust 0", sealedBy("rust 0;law eat 1/0;"), 0);
        Bench.due("with E, rust isn't looked at", sealedBy("rust 100;law eat 0;"), 0);
        Bench.says("2. E of eat 0 .. 100");
        for (String[] law : new String[][] {{"0-9999", "0"}, {"0-1", "0"}, {"0", "0"}, {"100", "1"}, {"101", "1"},
            {"9999*9999", "1"}}) {
            LeanLatches x = Bench.door("latch a 0;push a 0;law eat " + law[0] + ";");
            Bench.due("by call, eat " + law[0], sealedBy("law eat " + law[0] + ";"), law[1].charAt(0) - '0');
            x.go(1);
            Bench.due("by a number, eat " + law[0], x.row(1), law[1].charAt(0) - '0');
        }
        Bench.due("law() answers E itself", Bench.door(AB + "law eat 101;").law(2, 0), 101);
    }

    /** The least seed of which the first number is just that of a hundred. */
    private static int seedOf(int ofHundred) {
        int seed = 0;
        while (Bench.ofHundred(Bench.drawn(seed)) != ofHundred) {
            seed++;
        }
        return seed;
    }

    private static int sealedByRust(int seed, int rust) {
        LeanLatches x = Bench.door("latch a 0;push a 0;seed " + seed + ";rust " + rust + ";");
        x.go(1);
        return x.row(1);
    }

    private static void numbersBelow() {
        Bench.says("2. if a number modulo 100 is below E of eat");
        for (int number : new int[] {0, 1, 2, 49, 50, 51, 97, 98, 99}) {
            int seed = seedOf(number);
            Bench.due("number " + number + ", the same", sealedByRust(seed, number), 0);
            Bench.due("number " + number + ", one more", sealedByRust(seed, number + 1), 1);
            if (number > 0) {
                Bench.due("number " + number + ", one less", sealedByRust(seed, number - 1), 0);
            }
        }
    }

    /** Which of a, b are SEALED behind both are PUSHED, a by that E of eat, b by 50. */
    private static int sealedBehind(int seed, String eat, String seal) {
        LeanLatches x = Bench.door(AB + "push a 0;push b 0;seed " + seed + ";law eat (place=0)*(" + eat
            + ")+(place=1)*50;" + seal);
        x.go(1);
        return x.row(1);
    }

    private static void noNumber() {
        // A seed of which the first number is below 50 and the second one isn't.
        int seed = 0;
        while (Bench.ofHundred(Bench.drawn(seed)) >= 49 || Bench.ofHundred(Bench.drawn(Bench.drawn(seed))) < 50) {
            seed++;
        }
        Bench.says("2. no number, if E is 0 or 100");
        Bench.due("E 0: the first number is b's", sealedBehind(seed, "0", ""), 2);
        Bench.due("E 100: the first number is b's", sealedBehind(seed, "100", ""), 3);
        Bench.due("E below 0", sealedBehind(seed, "0-1", ""), 2);
        Bench.due("E above 100", sealedBehind(seed, "101", ""), 3);
        Bench.due("E 99: the second number is b's", sealedBehind(seed, "99", ""), 1);
        Bench.due("E 1: the second number is b's", sealedBehind(seed, "1", ""), Bench.ofHundred(Bench.drawn(seed)) < 1 ? 1 : 0);
        Bench.says("2. a number, asked behind E of seal whatever that is");
        Bench.due("E of seal 1", sealedBehind(seed, "49", "law seal place=0;"), 1);
        Bench.due("E of seal 0", sealedBehind(seed, "49", "law seal 0;"), 1);
        Bench.due("E of seal with an ERROR", sealedBehind(seed, "49", "law seal 1/0;"), 1);
        Bench.says("2. no number of a PUSH in VAIN");
        LeanLatches x = Bench.door(AB + "lean a up b;push a 0;push b 0;rust 50;seed " + seed + ";");
        x.go(1);
        Bench.due("the first number is b's", x.row(1), 2);
        Bench.says("2. AS IT GOES, and by call: without numbers");
        x = Bench.door(AB + "push b 0;rust 50;seed " + seed + ";");
        x.push(0);
        x.ahead(5, 0);
        x.tried(4, 0, 5);
        x.when(1);
        x.chance(7, 5, 1);
        x.go(1);
        Bench.due("the first number is b's", x.row(1), 3);
    }

    private static void numbersWrapAround() {
        Bench.says("2. Numbers: without what is above 31 bits, by 65536");
        for (int seed : new int[] {0, 1, 2, 3, 4, 77777, 99998, 99999}) {
            LeanLatches x = Bench.door("latch a 0;" + "push a 0;".repeat(16) + "oil 1;law eat (worn>15)*50;seed " + seed + ";"
                + "law effort 1;");
            x.go(1);
            Bench.due("one number of seed " + seed, x.row(1), Bench.ofHundred(Bench.drawn(seed)) < 50 ? 1 : 0);
        }
        Bench.says("2. Numbers: the last one times 1103515245 and 12345, one behind another for long");
        LeanLatches x = Bench.door(AB + "latch c 0;push a 0;push b 0;push c 0;push a 1;push b 1;push c 1;push a 2;push b 2;"
            + "push c 2;push a 3;push b 3;push c 3;oil 1;oil 2;oil 3;rust 50;seed 99999;");
        long number = 99999;
        for (int minute = 0; minute < 4; minute++) {
            int sealed = 0;
            for (int j = 0; j < 3; j++) {
                number = Bench.drawn(number);
                sealed |= Bench.ofHundred(number) < 50 ? 1 << j : 0;
            }
            x.go(1);
            Bench.due("sealed in minute " + minute, x.row(1), sealed);
        }
        Bench.says("2. Numbers: from the greatest seed of chance() on");
        x = Bench.door("latch a 0;push a 0;rust 50;");
        int times = 0;
        number = Integer.MAX_VALUE;
        for (int i = 0; i < 10; i++) {
            number = Bench.drawn(number);
            times += Bench.ofHundred(number) < 50 ? 1 : 0;
        }
        Bench.due("chance(2147483647, 1, 0)", x.chance(Integer.MAX_VALUE, 1, 0), times);
    }

    private static void minutes() {
        Bench.says("2. A MINUTE: (1) if oil is told of it, nothing is SEALED (2) its PUSHES");
        LeanLatches x = Bench.door(AB + "push a 0;push b 1;oil 0;law seal 1;");
        x.seal(0);
        x.seal(1);
        x.go(1);
        Bench.due("oil comes first", x.row(0), 1);
        Bench.due("and seals nothing off", x.row(1), 1);
        Bench.due("none in vain", x.count(8), 0);
        Bench.says("2. oil of it, not of the MINUTE ahead or behind");
        x = Bench.door("latch a 0;oil 1;");
        x.seal(0);
        x.go(1);
        Bench.due("ahead of it", x.row(1), 1);
        x.go(1);
        Bench.due("in it", x.row(1), 0);
        x.seal(0);
        x.go(1);
        Bench.due("behind it", x.row(1), 1);
        Bench.says("2. oil of it: once or more often; with nothing SEALED");
        x = Bench.door("latch a 0;oil 0;oil 0;oil 0;oil 0;push a 0;");
        x.go(1);
        Bench.due("the push is done", x.row(0), 1);
        Bench.due("nothing is sealed", x.row(1), 0);
        Bench.says("2. its PUSHES by their numbers");
        x = Bench.door(AB + "lean b up a;push b 3;push a 3;push b 3;push a 2;push a 2;");
        x.go(4);
        Bench.due("b in vain, a, b", x.row(0), 3);
        Bench.due("one in vain", x.count(8), 1);
        Bench.says("2. Then it is the next MINUTE: the first, the last one that is told of");
        x = Bench.door("latch a 0;push a 0;push a 99;oil 99;");
        Bench.due("at first", x.count(4), 0);
        x.go(1);
        Bench.due("minute 0 went by", x.row(0), 1);
        Bench.due("go(98)", x.go(98), 99);
        x.seal(0);
        Bench.due("ahead of 99", x.row(0), 1);
        Bench.due("go(1)", x.go(1), 100);
        Bench.due("minute 99 went by", x.row(0), 0);
        Bench.due("by oil", x.row(1), 0);
        Bench.due("go(200)", x.go(200), 300);
        Bench.due("none goes by again", x.row(0), 0);
    }

    private static void names() {
        Bench.says("2. NAMES: the least and the most");
        LeanLatches x = Bench.door(Bench.latches(8, 1) + "law effort place;law seal ups*10+seals;law eat high;");
        Bench.due("place of the first", x.law(0, 0), 0);
        Bench.due("place of the eighth", x.law(0, 7), 7);
        Bench.due("ups 8, seals 0", x.law(1, 3), 80);
        Bench.due("high of one up", x.law(2, 7), 1);
        for (int latch = 0; latch < 8; latch++) {
            x.force(latch);
            x.seal(latch);
        }
        Bench.due("ups 0, seals 8", x.law(1, 3), 8);
        Bench.due("high of one down", x.law(2, 7), 0);
        x = Bench.door("latch a 0;push a 0;push a 7;push a 99;law effort minute+1;law seal minute*0;law eat minute*0;");
        x.go(1);
        Bench.due("minute 0", x.count(7), 1);
        x.go(7);
        Bench.due("minute 7", x.count(7), 9);
        x.go(92);
        Bench.due("minute 99", x.count(7), 109);
        Bench.due("minute now", x.law(0, 0), 101);
        Bench.says("2. NAMES: all as they are by then, in one MINUTE, too");
        x = Bench.door(AB + "push a 0;push b 0;push a 0;law effort 100*tired+10*ups+worn+1;");
        x.go(1);
        // 1, then 100 + 10 + 1 more, then 100 * 112 + 20 + 1 + 1 more, of which 999 at most.
        Bench.due("effort", x.count(7), 1 + 111 + 999);
    }

    private static void law(String e, long value) {
        LeanLatches x = Bench.door("latch a 1;law eat " + e + ";");
        Bench.due("law eat " + e, x.law(2, 0), value);
    }

    private static void values() {
        Bench.says("2. / is cut towards 0");
        law("7/2", 3);
        law("(0-7)/2", -3);
        law("7/(0-2)", -3);
        law("(0-7)/(0-2)", 3);
        law("(0-1)/2", 0);
        law("1/2", 0);
        law("0/5", 0);
        Bench.says("2. comparisons, and, or, not are 1 or 0 (what isn't 0 is as 1)");
        law("5 and 0-3", 1);
        law("0-3 or 0", 1);
        law("not (0-3)", 0);
        law("not 0", 1);
        law("not 1", 0);
        law("(3>2)+(3>=3)+(2<3)+(2<=2)+(2=2)+(2<>3)", 6);
        law("(2>2)+(2>=3)+(2<2)+(3<=2)+(2=3)+(2<>2)", 0);
        law("(3<2)+(3<=2)*2+(3=2)*4+(3<>2)*8+(3>=2)*16+(3>2)*32", 8 + 16 + 32);
        law("(2<3)+(2<=3)*2+(2=3)*4+(2<>3)*8+(2>=3)*16+(2>3)*32", 1 + 2 + 8);
        law("(2<2)+(2<=2)*2+(2=2)*4+(2<>2)*8+(2>=2)*16+(2>2)*32", 2 + 4 + 16);
        law("(0 or 0)+(0 or 2)*2+(2 or 0)*4+(2 or 2)*8", 2 + 4 + 8);
        law("(0 and 0)+(0 and 2)*2+(2 and 0)*4+(2 and 2)*8", 8);
        law("(0-2<0-1)+(0-1>0-2)*10", 11);
        Bench.says("2. not binds closer than and, and than or, comparisons closer than not, signs closer than these");
        law("not 0 and 0", 0);
        law("1 or 0 and 0", 1);
        law("not 2 = 2", 0);
        law("1 + 1 = 2 * 1", 1);
        law("8-3-2", 3);
        law("64/4/2", 8);
        law("2-1*2", 0);
    }

    private static void errors() {
        String most = "1000*1000*1000*1000";
        Bench.says("2. ERROR: / by 0");
        law("1/0", ERROR);
        law("0/0", ERROR);
        law("(0-1)/(3-3)", ERROR);
        law("1/(not 1)", ERROR);
        Bench.says("2. ERROR: a value above 10 to the 12");
        law(most, 1000000000000L);
        law(most + "+0", 1000000000000L);
        law(most + "+1", ERROR);
        law("1000*1000*1000*999+9999*9999*10+9999*20+10", 1000000000000L);
        law("1000*1000*1000*999+9999*9999*10+9999*20+11-11", ERROR);
        law("1000*1000*1000*1001", ERROR);
        law("(" + most + ")*1", 1000000000000L);
        law("(" + most + ")*2/2", ERROR);
        Bench.says("2. ERROR: a value below 0 by more than that");
        law("0-" + most, -1000000000000L);
        law("0-" + most + "-0", -1000000000000L);
        law("0-" + most + "-1", ERROR);
        law("(0-1000)*1000*1000*1000", -1000000000000L);
        law("(0-1001)*1000*1000*1000", ERROR);
        law("1000*1000*(0-1000)*1001", ERROR);
        Bench.says("2. ERROR: a value that would be a small one again without what is above 64 bits");
        law("(" + most + ")*(" + most + ")", ERROR);
        law("(0-" + most + ")*(" + most + ")", ERROR);
        law("(0-" + most + ")*(0-" + most + ")", ERROR);
        // 2 to the 34 times 2 to the 30, and 2 to the 35 times that.
        law("(8192*8192*256)*(8192*8192*16)", ERROR);
        law("(8192*8192*512)*(8192*8192*16)", ERROR);
        law("(8192*8192*512)*(8192*8192*512)", ERROR);
        Bench.says("2. both sides are worked out");
        law("1 or 1/0", ERROR);
        law("1/0 or 1", ERROR);
        law("0 and 1/0", ERROR);
        law("1/0 and 0", ERROR);
        law("0*(1/0)", ERROR);
        law("not (1/0)", ERROR);
        law("(1/0)<>(1/0)", ERROR);
    }

    private static void asItGoes() {
        Bench.says("2. AS IT GOES, and by call: it is SEALED, if E of eat is 50 at least");
        for (int rust : new int[] {0, 1, 49, 50, 51, 99, 100}) {
            int due = rust >= 50 ? 1 : 0;
            LeanLatches x = Bench.door("latch a 0;push a 0;push a 1;seed " + seedOf(rust % 100) + ";rust " + rust + ";");
            Bench.due("ahead, rust " + rust, x.ahead(1, 3), due);
            Bench.due("ahead for two, rust " + rust, x.ahead(2, 2), due);
            Bench.due("tried, rust " + rust, x.tried(3, 0, 2), 2 - due);
            x.push(0);
            Bench.due("by call, rust " + rust, x.row(1), due);
        }
    }

    /** Eight are PUSHED: none is SEALED without numbers below 50, all are from 50 on; by numbers some are. */
    private static void asItGoesWhateverWasAsked() {
        for (int rust : new int[] {49, 50}) {
            String text = Bench.latches(8, 0) + "push a 5;push b 5;push c 5;push d 5;push e 5;push f 5;push g 5;push h 5;"
                + "oil 4;seed 77;rust " + rust + ";";
            int due = rust == 50 ? 8 : 0;
            Bench.says("2. AS IT GOES, and by call: without numbers, behind MINUTES with numbers, too");
            LeanLatches x = Bench.door(text);
            x.go(1);
            for (int latch = 0; latch < 8; latch++) {
                x.push(latch);
            }
            Bench.due("by call behind go(), rust " + rust, x.count(6), due);
            x = Bench.door(text);
            x.go(1);
            Bench.due("ahead() behind go(), rust " + rust, x.ahead(9, 3), due);
            x.chance(5, 9, 0);
            Bench.due("ahead() behind chance(), rust " + rust, x.ahead(9, 3), due);
            x.chance(5, 9, 0);
            Bench.due("tried() behind chance(), rust " + rust, x.tried(4, 0, 9), rust == 50 ? 8 : 16);
            x.chance(5, 9, 0);
            x.push(0);
            Bench.due("by call behind chance(), rust " + rust, x.count(6), rust == 50 ? 1 : 0);
            Bench.says("2. MINUTES as they are told, whatever was tried before");
            for (int what = 0; what < 5; what++) {
                x = Bench.door(text);
                LeanLatches y = Bench.door(text);
                x.seal(1);
                y.seal(1);
                x.tried(what, 0, 9);
                Bench.due("ahead() behind tried(" + what + ")", x.ahead(9, 1), y.ahead(9, 1));
                x.tried(what, 0, 9);
                Bench.due("chance() behind tried(" + what + ")", x.chance(3, 9, 0), y.chance(3, 9, 0));
                x.tried(what, 0, 9);
                Bench.due("when() behind tried(" + what + ")", x.when(0), y.when(0));
                x.tried(what, 0, 9);
                x.go(9);
                y.go(9);
                Bench.due("row(0), go() behind tried(" + what + ")", x.row(0), y.row(0));
                Bench.due("row(1), go() behind tried(" + what + ")", x.row(1), y.row(1));
                Bench.due("effort, go() behind tried(" + what + ")", x.count(7), 8);
                x.tried(what, 1, 9);
                x.tried(what, 0, 9);
                x.push(0);
                y.push(0);
                Bench.due("row(1), push() behind tried(" + what + ")", x.row(1), y.row(1));
            }
        }
    }

    private static void ahead() {
        Bench.says("3. AHEAD for no MINUTES: as it is");
        LeanLatches x = Bench.door("latch a 1;latch b 0;push b 0;push a 0;push a 0;");
        x.push(0);
        x.push(0);
        x.seal(0);
        Bench.due("up", x.ahead(0, 0), 1);
        Bench.due("EFFORT more", x.ahead(0, 1), 0);
        Bench.due("VAIN more", x.ahead(0, 2), 0);
        Bench.due("SEALED", x.ahead(0, 3), 1);
        Bench.due("the ROW", x.ahead(0, 4), 1);
        Bench.says("3. AHEAD: EFFORT more, VAIN more than now");
        Bench.due("EFFORT more", x.ahead(1, 1), 1);
        Bench.due("VAIN more", x.ahead(1, 2), 2);
        x.go(1);
        Bench.due("EFFORT", x.count(7), 3);
        Bench.due("VAIN", x.count(8), 2);
        Bench.due("EFFORT more then", x.ahead(1, 1), 0);
        Bench.due("VAIN more then", x.ahead(1, 2), 0);
        Bench.says("3. AHEAD for the most MINUTES");
        x = Bench.door("latch a 0;push a 99;");
        Bench.due("ahead(99, 0)", x.ahead(99, 0), 0);
        Bench.due("ahead(100, 0)", x.ahead(100, 0), 1);
        Bench.due("ahead(200, 0)", x.ahead(200, 0), 1);
    }

    private static void when() {
        Bench.says("3. WHEN: in the first MINUTE, in the last one that is told of, not by then");
        LeanLatches x = Bench.door("latch a 0;latch b 1;latch c 0;push a 0;push b 99;push c 5;push c 5;");
        Bench.due("when(0)", x.when(0), 1);
        Bench.due("when(1)", x.when(1), 100);
        Bench.due("when(2): as now again in the same MINUTE", x.when(2), -2);
        x.go(99);
        Bench.due("when(1) from 99 on", x.when(1), 1);
        x.go(1);
        Bench.due("when(1) from 100 on", x.when(1), -2);
        Bench.says("3. WHEN: not as now, whatever it was at first");
        x = Bench.door("latch a 0;push a 3;");
        x.force(0);
        Bench.due("when(0), up now", x.when(0), 4);
        x.seal(0);
        Bench.due("when(0), sealed", x.when(0), -2);
    }

    private static void byMovesAlone() {
        Bench.says("3. All that follows goes by MOVES alone, whatever laws");
        LeanLatches x = Bench.door(AB + "lean b up a;law seal 1;rust 100;oil 0;law effort 999;");
        Bench.due("fewest(2)", x.fewest(2), 3);
        Bench.due("reach()", x.reach(), 4);
        Bench.due("free(1)", x.free(1), 2);
        Bench.due("game(0)", x.game(0), 1);
        Bench.due("drunk(0, 2, 1)", x.drunk(0, 2, 1), 2);
        Bench.says("3. SEALED ones as now never, though oil is told");
        x.seal(0);
        Bench.due("fewest(1)", x.fewest(1), -2);
        Bench.due("reach()", x.reach(), 1);
        Bench.says("3. FEWEST to that of now, to the next");
        x = Bench.door(AB);
        Bench.due("fewest(0)", x.fewest(0), 0);
        Bench.due("fewest(2)", x.fewest(2), 1);
        Bench.due("fewest(3)", x.fewest(3), 2);
        Bench.says("3. FIRST: the first LATCH by numbers");
        Bench.due("first(3)", x.first(3), 0);
        x = Bench.door(AB + "lean a up b;");
        Bench.due("first(3), a can't yet", x.first(3), 1);
        Bench.says("3. FIRST: of fewest MOVES, not of longer ways");
        x = Bench.door(Bench.latches(3, 0) + "lean c up a or up b;");
        Bench.due("first(6)", x.first(6), 1);
        Bench.says("3. WAYS, 1000000000 at most");
        x = Bench.door(Bench.latches(8, 0) + "lean g up a and up b and up c and up d and up e and up f;"
            + "lean h up g and down a and down b and down c and down d and down e and down f;");
        Bench.due("ways(255), below", x.ways(255), 720 * 720 * 720);
        Bench.due("ways(128), above", x.ways(128), 1000000000);
    }

    private static void shutIn() {
        Bench.says("3. REACH: of one alone, of all");
        LeanLatches x = Bench.door(AB + "lean a up b;lean b up a;");
        Bench.due("reach()", x.reach(), 1);
        Bench.due("reach() of eight", Bench.door(Bench.latches(8, 0)).reach(), 256);
        Bench.says("3. FARTHEST of one alone: by none, that of now");
        Bench.due("farthest(0)", x.farthest(0), 0);
        Bench.due("farthest(1)", x.farthest(1), 0);
        x.force(1);
        x.seal(0);
        x.seal(1);
        Bench.due("farthest(1), row 2", x.farthest(1), 2);
        Bench.says("3. FARTHEST: the least as bits of several");
        x = Bench.door(Bench.latches(3, 0) + "lean b up a;lean c down b;lean a down c;");
        Bench.due("reach()", x.reach(), 7);
        Bench.due("farthest(0)", x.farthest(0), 3);
        Bench.due("farthest(1) of rows 2 and 7", x.farthest(1), 2);
        x = Bench.door("latch a 1;latch b 1;lean a up b;lean b up a;");
        Bench.due("farthest(1) of rows 1 and 2", x.farthest(1), 1);
    }

    private static String rings(int n) {
        StringBuilder text = new StringBuilder(Bench.latches(n, 0));
        for (int j = 1; j < n; j++) {
            text.append("lean ").append((char) ('a' + j)).append(" up ").append((char) ('a' + j - 1));
            for (int i = 0; i < j - 1; i++) {
                text.append(" and down ").append((char) ('a' + i));
            }
            text.append(';');
        }
        return text.toString();
    }

    private static void widest() {
        Bench.says("3. WIDE: 0 of one alone; the most that there may be");
        LeanLatches x = Bench.door(AB + "lean a up b;lean b up a;");
        Bench.due("wide() of one alone", x.wide(), 0);
        Bench.due("wide() without latches", new LeanLatches().wide(), 0);
        Bench.due("wide() of eight free ones", Bench.door(Bench.latches(8, 0)).wide(), 8);
        x = Bench.door(rings(8));
        Bench.due("wide() of eight rings", x.wide(), 255);
        Bench.due("fewest(128)", x.fewest(128), 255);
        Bench.due("past(128, 253)", x.past(128, 253), 129);
        Bench.due("past(128, 254)", x.past(128, 254), -2);
        Bench.says("3. WIDE: from any of these to any other, not from now alone");
        for (int row = 0; row < 16; row++) {
            x = Bench.door(rings(4));
            for (int latch = 0; latch < 4; latch++) {
                if ((row >> latch & 1) != 0) {
                    x.force(latch);
                }
            }
            Bench.due("wide() of four rings from row " + row, x.wide(), 15);
        }
        Bench.due("wide(), row 0 is amid the others", Bench.door(AB + "lean a down b;lean b down a;").wide(), 2);
        Bench.says("3. WIDE: of these alone that can be had from now");
        x = Bench.door(rings(3) + "latch d 0;lean d up a and down a;");
        Bench.due("wide()", x.wide(), 7);
        x.seal(1);
        Bench.due("wide() with b sealed", x.wide(), 1);
        Bench.says("3. PARTS, of all ROWS there are: one, as many as ROWS");
        Bench.due("parts() without latches", new LeanLatches().parts(), 1);
        Bench.due("parts() of eight free ones", Bench.door(Bench.latches(8, 0)).parts(), 1);
        Bench.due("parts() of eight rings", Bench.door(rings(8)).parts(), 1);
        x = Bench.door(Bench.latches(8, 0));
        for (int latch = 0; latch < 8; latch++) {
            x.seal(latch);
        }
        Bench.due("parts() of eight sealed ones", x.parts(), 256);
        Bench.due("parts(), one leant so that it can't", Bench.door(AB + "lean a many 2;").parts(), 2);
    }

    private static void pastAndMust() {
        Bench.says("3. PAST: neither that of now nor it; in the order in which they come");
        LeanLatches x = Bench.door(AB + "lean b up a;");
        Bench.due("past(1, 0)", x.past(1, 0), -2);
        Bench.due("past(2, 0)", x.past(2, 0), 1);
        Bench.due("past(2, 1)", x.past(2, 1), 3);
        Bench.due("past(2, 2)", x.past(2, 2), -2);
        Bench.says("3. PAST: on each way, however long");
        x = Bench.door(Bench.latches(3, 0) + "lean c up a or up b;lean a down b or up c;lean b down a or up c;");
        // To row 4 from 0: by 1 and 5, or by 2 and 6; all are of three MOVES.
        Bench.due("past(4, 0) by two ways", x.past(4, 0), -2);
        x = Bench.door(AB + "latch c 0;lean b down a;lean c up a and down b or up b and down a;");
        // To row 5: 0, 1, 5 or 0, 2, 6, 4, 5 or more: none is on each way.
        Bench.due("past(5, 0) by a longer way", x.past(5, 0), -2);
        Bench.says("3. PAST and MUST: as the first LATCH LEANS, too");
        x = Bench.door(AB + "lean a up b;");
        Bench.due("past(1, 0)", x.past(1, 0), 2);
        Bench.due("past(1, 1)", x.past(1, 1), 3);
        Bench.due("past(1, 2)", x.past(1, 2), -2);
        Bench.due("must(1)", x.must(1), 3);
        Bench.says("3. MUST: none to that of now; each on each way");
        x = Bench.door(AB + "latch c 0;lean b down a;lean c up a and down b or up b and down a;");
        Bench.due("must(0)", x.must(0), 0);
        Bench.due("must(5)", x.must(5), 5);
        x = Bench.door(AB + "lean b up a;");
        Bench.due("must(2): a, though it is as now then", x.must(2), 3);
        Bench.due("must(255)", Bench.door(Bench.latches(8, 0)).must(255), 255);
    }

    private static void freeAndEase() {
        Bench.says("3. FREE: that one with (1: at once)");
        LeanLatches x = Bench.door(AB + "lean b up a;latch c 0;lean c up b and down a;");
        Bench.due("free(0)", x.free(0), 1);
        Bench.due("free(1)", x.free(1), 2);
        Bench.due("free(2)", x.free(2), 4);
        Bench.due("free(1), never", Bench.door(AB + "lean b up a;lean a up b;").free(1), -2);
        x.seal(0);
        Bench.due("free(0), sealed", x.free(0), -2);
        Bench.says("3. EASE: none, if it can be had; that of now");
        x = Bench.door(Bench.latches(3, 0) + "lean a many 3;lean b many 3;lean c up a and up b;");
        Bench.due("ease(0)", x.ease(0), 0);
        Bench.says("3. EASE: the fewest, of several the least");
        Bench.due("ease(1)", x.ease(1), 1);
        Bench.due("ease(3)", x.ease(3), 3);
        Bench.due("ease(4): c alone", x.ease(4), 4);
        Bench.due("ease(7)", x.ease(7), 3);
        Bench.due("ease(5): a and b are less than a and c", x.ease(5), 3);
        x = Bench.door(Bench.latches(8, 0) + "lean a many 8;lean b as a;lean c as a;lean d as a;lean e as a;lean f as a;"
            + "lean g as a;lean h as a;");
        Bench.due("ease(255): all", x.ease(255), 255);
        Bench.says("3. EASE: by none, if a SEALED one isn't as it should be");
        x.seal(7);
        Bench.due("ease(255)", x.ease(255), -2);
        Bench.due("ease(127)", x.ease(127), 127);
        x.force(7);
        Bench.due("ease(255), it is up as it should be", x.ease(255), 127);
        Bench.due("ease(127), it is up", x.ease(127), -2);
    }

    private static void game() {
        Bench.says("3. GAME: who can't, loses, the first one, too");
        Bench.due("without latches", new LeanLatches().game(0), 1);
        Bench.due("all up", Bench.door(Bench.latches(8, 1)).game(0), 1);
        LeanLatches x = Bench.door(AB + "lean a up b;lean b up a;");
        Bench.due("none can", x.game(0), 1);
        Bench.due("none can", x.game(1), -2);
        x.force(0);
        Bench.due("b can", x.game(0), 0);
        Bench.due("by b", x.game(1), 1);
        Bench.says("3. GAME: none down; not SEALED ones; as each LEANS by then");
        Bench.due("one down of eight", Bench.door(Bench.latches(7, 1) + "latch h 0;").game(1), 7);
        x = Bench.door(AB);
        x.seal(1);
        Bench.due("a alone", x.game(0), 0);
        Bench.due("b opens c", Bench.door(Bench.latches(3, 0) + "lean c up a and up b;").game(0), 0);
        Bench.says("3. GAME: the first by which he wins");
        Bench.due("of three", Bench.door(Bench.latches(3, 0)).game(1), 0);
        Bench.due("not of a, which leaves b", Bench.door(AB + "lean a down b;").game(1), 1);
    }

    private static void fractions() {
        Bench.says("3. DRUNK: if none can, none is");
        LeanLatches x = Bench.door(AB + "lean a up b;lean b up a;");
        Bench.due("drunk(0, 5, 0)", x.drunk(0, 5, 0), 1);
        Bench.due("drunk(0, 5, 1)", x.drunk(0, 5, 1), 1);
        Bench.due("drunk(1, 5, 0)", x.drunk(1, 5, 0), 0);
        Bench.due("drunk(1, 5, 1)", x.drunk(1, 5, 1), 1);
        Bench.says("3. DRUNK: all alike, of one to eight that can be MOVED");
        for (int n = 1; n <= 8; n++) {
            x = Bench.door(Bench.latches(n, 0));
            Bench.due("drunk(1, 1, 0) of " + n, x.drunk(1, 1, 0), 1);
            Bench.due("drunk(1, 1, 1) of " + n, x.drunk(1, 1, 1), n);
        }
        Bench.due("drunk(31, 5, 0), 120 of 32768", x.drunk(31, 5, 0), 15);
        Bench.due("drunk(31, 5, 1), 120 of 32768", x.drunk(31, 5, 1), 4096);
        Bench.says("3. DRUNK: that ROW is had then, not ahead of it");
        x = Bench.door("latch a 0;");
        Bench.due("drunk(1, 2, 0)", x.drunk(1, 2, 0), 0);
        Bench.due("drunk(0, 2, 0)", x.drunk(0, 2, 0), 1);
        Bench.says("3. HOLDS: by rust told, of none, of 0, of 100");
        Bench.due("holds(6, 0) of 0", Bench.door("rust 0;").holds(6, 0), 1);
        Bench.due("holds(6, 1) of 0", Bench.door("rust 0;").holds(6, 1), 1);
        Bench.due("holds(0, 0) of 100", Bench.door("rust 100;").holds(0, 0), 1);
        Bench.due("holds(1, 0) of 100", Bench.door("rust 100;").holds(1, 0), 0);
        Bench.due("holds(1, 1) of 100", Bench.door("rust 100;").holds(1, 1), 1);
        Bench.due("holds(6, 0) of 99", Bench.door("rust 99;").holds(6, 0), 1);
        Bench.due("holds(6, 1) of 99", Bench.door("rust 99;").holds(6, 1), 1000000000000L);
        Bench.due("a law isn't looked at", Bench.door("rust 0;law eat 100;").holds(1, 0), 1);
    }

    private static void notes() {
        Bench.says("3. NOTES, at most 24, numbered from 0 on");
        LeanLatches x = Bench.door(AB);
        for (int i = 0; i < 24; i++) {
            Bench.due("note or strike", i % 2 == 0 ? x.note(0, 0, true) : x.strike(i - 1), i);
        }
        Bench.due("a 25th", x.note(0, 0, true), -1);
        Bench.due("a 25th", x.strike(0), -1);
        Bench.due("count(10)", x.count(10), 24);
        Bench.says("3. a NOTE: nothing SEALED; what it is told to LEAN on isn't looked at");
        x = Bench.door(AB + "lean a up b;");
        x.seal(0);
        Bench.due("could in a row in which it couldn't", x.note(0, 0, true), 0);
        Bench.due("couldn't in a row in which it could", x.note(2, 0, false), 1);
        Bench.due("fits(0)", x.fits(0), 1 << 4);
    }

    private static void known() {
        Bench.says("3. KNOWN by n (all at first): the first n");
        LeanLatches x = Bench.door(AB);
        x.note(2, 0, true);
        x.note(2, 0, false);
        Bench.due("by all at first: none fits", x.fits(0), 0);
        x.known(1);
        Bench.due("by one", x.fits(0), 0b01001);
        x.known(0);
        Bench.due("by none", x.fits(0), 0b11001);
        Bench.says("3. that aren't STRUCK by one of these: a STRIKE behind the first n strikes nothing");
        x = Bench.door(AB);
        x.note(2, 0, true);
        x.strike(0);
        x.known(1);
        Bench.due("by one", x.fits(0), 0b01001);
        x.known(2);
        Bench.due("by two", x.fits(0), 0b11001);
        Bench.says("3. a STRIKE may be STRUCK: then it doesn't count");
        x.strike(1);
        Bench.due("by two still", x.fits(0), 0b11001);
        x.known(3);
        Bench.due("by three", x.fits(0), 0b01001);
        Bench.says("3. asked from the last one on: a row of 23 STRIKES, each of the one ahead");
        x = Bench.door(AB);
        x.note(2, 0, true);
        for (int i = 0; i < 23; i++) {
            x.strike(i);
        }
        for (int n = 1; n <= 24; n++) {
            x.known(n);
            Bench.due("by " + n, x.fits(0), n % 2 == 1 ? 0b01001 : 0b11001);
        }
        Bench.says("3. STRUCK more than once");
        x = Bench.door(AB);
        x.note(2, 0, true);
        x.strike(0);
        x.strike(0);
        x.strike(1);
        Bench.due("one STRIKE is left", x.fits(0), 0b11001);
        x.strike(2);
        Bench.due("none is left", x.fits(0), 0b01001);
    }

    private static void fits() {
        Bench.says("3. LEANINGS: 0 nothing, 1 and twice j: LATCH j is up, 2 and twice j: is down, j another one");
        Bench.due("of one LATCH alone", Bench.door("latch a 0;").fits(0), 1);
        LeanLatches x = Bench.door(Bench.latches(8, 0));
        Bench.due("of the first of eight", x.fits(0), 0b11111111111111001);
        Bench.due("of the eighth", x.fits(7), 0b00111111111111111);
        x.note(1, 7, true);
        Bench.due("a up, the others down", x.fits(7), 0b101010101010011);
        x.note(128, 0, true);
        Bench.due("h up, the others down", x.fits(0), 0b1101010101010001);
        Bench.says("3. FITS: of that LATCH alone; none fits");
        Bench.due("of another one", x.fits(3), 0b11111111001111111);
        x.note(1, 7, false);
        Bench.due("none", x.fits(7), 0);
    }

    private static void ask() {
        Bench.says("3. ASK: the ROW, the least as bits");
        LeanLatches x = Bench.door(Bench.latches(3, 0));
        Bench.due("ask(2, 0): all leave three at worst", x.ask(2, 0), 0);
        Bench.due("ask(2, 1)", x.ask(2, 1), 3);
        x.note(0, 2, true);
        Bench.due("ask(2, 0) of nothing, a down, b down", x.ask(2, 0), 1);
        Bench.due("ask(2, 1)", x.ask(2, 1), 2);
        x.note(3, 2, true);
        Bench.due("ask(2, 0) of nothing alone", x.ask(2, 0), 0);
        Bench.due("ask(2, 1) of nothing alone", x.ask(2, 1), 1);
        LeanLatches four = Bench.door(Bench.latches(4, 0));
        four.note(0, 3, false);
        four.note(1, 3, false);
        Bench.due("fits(3): b up, c up", four.fits(3), 1 << 3 | 1 << 5);
        Bench.due("ask(3, 0) of b up, c up", four.ask(3, 0), 2);
        Bench.due("ask(3, 1) of b up, c up", four.ask(3, 1), 1);
        Bench.says("3. ASK: (0 and 0, if none fits)");
        x.note(0, 2, false);
        Bench.due("ask(2, 0)", x.ask(2, 0), 0);
        Bench.due("ask(2, 1)", x.ask(2, 1), 0);
        Bench.says("3. ASK: of one LATCH alone, of eight");
        x = Bench.door("latch a 0;");
        Bench.due("ask(0, 0)", x.ask(0, 0), 0);
        Bench.due("ask(0, 1)", x.ask(0, 1), 1);
        x = Bench.door(Bench.latches(8, 0));
        Bench.due("ask(0, 0) of eight", x.ask(0, 0), 0);
        Bench.due("ask(0, 1) of eight", x.ask(0, 1), 8);
        x.note(0, 0, true);
        // Nothing and seven that are down: three up leave nothing and four, four up leave four.
        Bench.due("ask(0, 0) then", x.ask(0, 0), 0b00011110);
        Bench.due("ask(0, 1) then", x.ask(0, 1), 4);
    }

    private static void tried() {
        Bench.says("3. TRIED 0: nothing is SEALED by E of seal, of eat; what is SEALED stays so until oil");
        LeanLatches x = Bench.door(AB + "push a 0;push a 1;push b 1;push b 2;oil 2;law seal place=0;law eat place*100;");
        Bench.due("as it goes", x.ahead(3, 1), 3);
        Bench.due("tried(0, 0, 3)", x.tried(0, 0, 3), 4);
        x.seal(1);
        Bench.due("tried(0, 0, 2), b sealed", x.tried(0, 0, 2), 2);
        Bench.due("tried(0, 0, 3), b sealed until oil", x.tried(0, 0, 3), 3);
        Bench.says("3. TRIED 0: nor by rust, where no law of eating is told");
        x = Bench.door("latch a 0;push a 0;push a 1;rust 100;");
        Bench.due("as it goes", x.ahead(2, 1), 1);
        Bench.due("tried(0, 0, 2)", x.tried(0, 0, 2), 2);
        Bench.says("3. TRIED 1: nothing LEANS (SEALED ones aren't MOVED)");
        x = Bench.door(AB + "lean a many 8;lean b as a;push a 0;push b 0;push a 1;law seal place=0;");
        Bench.due("as it goes", x.ahead(2, 1), 0);
        Bench.due("tried(1, 0, 2): a is sealed by its first", x.tried(1, 0, 2), 2);
        x.seal(1);
        Bench.due("tried(1, 0, 2), b sealed", x.tried(1, 0, 2), 1);
        Bench.says("3. TRIED 2: LATCH i isn't PUSHED");
        x = Bench.door(AB + "lean b up a;push a 0;push b 0;");
        Bench.due("tried(2, 0, 1): b in vain then", x.tried(2, 0, 1), 0);
        Bench.due("tried(2, 1, 1)", x.tried(2, 1, 1), 1);
        Bench.says("3. TRIED 3: no oil told");
        x = Bench.door("latch a 0;push a 0;push a 1;push a 2;oil 1;law seal 1;");
        Bench.due("as it goes", x.ahead(3, 1), 2);
        Bench.due("tried(3, 0, 3)", x.tried(3, 0, 3), 1);
        Bench.says("3. TRIED 4: each PUSH told twice, one time behind the other (each in VAIN or not)");
        x = Bench.door(AB + "lean b up a;push a 0;push b 0;push b 1;");
        Bench.due("tried(4, 0, 2): a up and down, b in vain", x.tried(4, 0, 2), 2);
        Bench.due("tried(4, 0, 1) of one sealed by its first",
            Bench.door("latch a 0;push a 0;law seal 1;").tried(4, 0, 1), 1);
        Bench.says("3. TRIED for no MINUTES, for the most");
        for (int what = 0; what < 5; what++) {
            Bench.due("tried(" + what + ", 0, 0)", x.tried(what, 0, 0), 0);
            Bench.due("tried(" + what + ", 0, 200)", x.tried(what, 0, 200), new int[] {3, 3, 0, 3, 2}[what]);
        }
    }

    private static void undone() {
        Bench.says("4. Pushing, forcing, sealing by call (all that comes of it) can be undone, the latest first");
        LeanLatches x = Bench.door("latch a 0;latch b 1;law effort 5;law seal 1;");
        x.push(0);
        x.force(0);
        x.seal(0);
        Bench.due("undo()", x.undo(), 2);
        Bench.due("sealed again", x.row(1), 1);
        Bench.due("undo()", x.undo(), 1);
        Bench.due("up again", x.row(0), 3);
        Bench.due("undo()", x.undo(), 0);
        Bench.due("row, sealed, effort, worn", x.row(0) * 1000 + x.row(1) + x.count(7) + x.count(9), 2000);
        Bench.due("undo() of none", x.undo(), -1);
        Bench.says("4. what was refused isn't there to be undone");
        x.seal(0);
        x.push(0);
        x.push(9);
        x.force(9);
        x.seal(9);
        Bench.due("count(12)", x.count(12), 1);
        Bench.says("4. if no MINUTE went by since");
        x.go(0);
        x.go(201);
        x.go(-1);
        Bench.due("none did", x.count(12), 1);
        x.go(1);
        Bench.due("one did", x.count(12), 0);
        Bench.due("undo()", x.undo(), -1);
        Bench.due("all stays as it was", x.row(1), 1);
        Bench.says("4. what an undo took back can't be undone; one may go on behind it");
        x.force(0);
        x.undo();
        Bench.due("undo()", x.undo(), -1);
        x.force(1);
        Bench.due("count(12)", x.count(12), 1);
    }

    private static void undoneTwenty() {
        Bench.says("4. (20 at most): twenty, one more, a wrap-around");
        for (int more = 0; more <= 41; more++) {
            LeanLatches x = Bench.door(Bench.latches(8, 0));
            int[] rows = new int[20 + more + 1];
            for (int i = 0; i < 20 + more; i++) {
                x.force(i * 5 % 8);
                rows[i + 1] = x.row(0);
            }
            Bench.due("count(12)", x.count(12), 20);
            for (int left = 19; left >= 0; left--) {
                Bench.due("undo() of 20 and " + more, x.undo(), left);
                Bench.due("row(0), " + left + " left of 20 and " + more, x.row(0), rows[left + more]);
            }
            Bench.due("undo() of none", x.undo(), -1);
        }
        Bench.says("4. (20 at most): nineteen");
        LeanLatches x = Bench.door("latch a 0;");
        for (int i = 0; i < 19; i++) {
            x.force(0);
        }
        Bench.due("count(12)", x.count(12), 19);
    }

    private static void images() {
        Bench.says("4. An IMAGE keeps all: ROW, SEALED, EFFORT, VAIN, WORN, MINUTE, numbers");
        LeanLatches x = Bench.door(Bench.latches(8, 0) + "lean b many 2;push a 0;push b 0;push h 0;push a 1;push c 1;"
            + "push d 1;push e 1;push f 1;push g 1;push h 2;push c 2;push a 2;law effort 3;rust 50;seed 4;");
        x.go(1);
        x.seal(2);
        int[] before = new int[10];
        for (int what = 0; what < 10; what++) {
            before[what] = x.count(what);
        }
        int row = x.row(0);
        int sealed = x.row(1);
        Bench.due("keep()", x.keep(), 1);
        x.go(2);
        int later = x.row(1);
        x.force(0);
        x.seal(1);
        x.push(2);
        Bench.due("back()", x.back(), 1);
        for (int what = 0; what < 10; what++) {
            Bench.due("count(" + what + ")", x.count(what), before[what]);
        }
        Bench.due("row(0)", x.row(0), row);
        Bench.due("row(1)", x.row(1), sealed);
        x.go(2);
        Bench.due("by the same numbers", x.row(1), later);
        x.seal(1);
        x.undo();
        x.back();
        x.force(0);
        x.undo();
        x.go(2);
        Bench.due("by the same numbers, though some was undone", x.row(1), later);
        Bench.says("4. An IMAGE keeps all but NOTES");
        x.note(0, 0, true);
        x.keep();
        x.note(1, 0, true);
        x.strike(0);
        x.back();
        Bench.due("count(10)", x.count(10), 3);
    }
}
