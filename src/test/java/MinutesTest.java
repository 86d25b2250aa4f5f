/** Promises 10 to 15 and 35 to 39: pushing, forcing, sealing, minutes, ahead, when, chance, tried, undo, images. */
public final class MinutesTest {
    public static void main(String[] args) {
        pushing();
        effort();
        sealing();
        eating();
        numbers();
        forcing();
        minutes();
        limits();
        ahead();
        waiting();
        chances();
        trials();
        undoing();
        images();
        Bench.end("MinutesTest");
    }

    private static void pushing() {
        LeanLatches x = Bench.door("latch a 1;latch b 0;lean b up a;");
        Bench.due("push(1)", x.push(1), 2);
        Bench.due("push(0)", x.push(0), 1);
        Bench.due("push(1) while a is down", x.push(1), -2);
        Bench.due("not in vain", x.count(8), 0);
        Bench.due("no effort of it", x.count(7), 2);
        Bench.due("nothing to undo of it", x.count(12), 2);
        Bench.due("push(2)", x.push(2), -1);
        Bench.due("push(-1)", x.push(-1), -1);
        x.seal(0);
        Bench.due("push of a sealed one", x.push(0), -2);
    }

    private static int effortOf(String law) {
        LeanLatches x = Bench.door("latch a 0;latch b 1;law effort " + law + ";");
        x.push(0);
        return x.count(7);
    }

    private static void effort() {
        Bench.due("effort 7", effortOf("7"), 7);
        Bench.due("effort 0", effortOf("0"), 0);
        Bench.due("effort below 0", effortOf("0-5"), 0);
        Bench.due("effort 999", effortOf("999"), 999);
        Bench.due("effort above 999", effortOf("1000"), 999);
        Bench.due("effort with an error", effortOf("1/0"), 1);
        Bench.due("effort is asked ahead of the move", effortOf("high*100+ups*10+worn"), 10);
        LeanLatches x = Bench.door("latch a 0;law effort 999;");
        for (int i = 0; i < 101; i++) {
            x.push(0);
        }
        Bench.due("effort has an end", x.count(7), 99999);
        Bench.due("worn goes on", x.latch(0, 3), 101);
    }

    private static int sealedBy(String law) {
        LeanLatches x = Bench.door("latch a 0;latch b 1;" + law + ";");
        x.push(0);
        return x.row(1);
    }

    private static void sealing() {
        Bench.due("no law", sealedBy("oil 9"), 0);
        Bench.due("seal 0", sealedBy("law seal 0"), 0);
        Bench.due("seal 1", sealedBy("law seal 1"), 1);
        Bench.due("seal below 0", sealedBy("law seal 0-1"), 1);
        Bench.due("seal with an error", sealedBy("law seal 1/0"), 0);
        Bench.due("seal is asked behind the move: worn", sealedBy("law seal worn=1"), 1);
        Bench.due("seal is asked behind the move: high", sealedBy("law seal high"), 1);
        Bench.due("seal is asked behind the move: ups", sealedBy("law seal ups=2"), 1);
        Bench.due("seal is asked behind the move: tired", sealedBy("law seal tired=1"), 1);
        Bench.due("eat is asked ahead of the sealing", sealedBy("law seal 0;law eat (seals=0)*100"), 1);
    }

    private static void eating() {
        Bench.due("rust 49 by call", sealedBy("rust 49"), 0);
        Bench.due("rust 50 by call", sealedBy("rust 50"), 1);
        Bench.due("eat 49 by call", sealedBy("rust 100;law eat 49"), 0);
        Bench.due("eat 50 by call", sealedBy("law eat 50"), 1);
        Bench.due("eat above 100", sealedBy("law eat 9999"), 1);
        Bench.due("eat below 0", sealedBy("law eat 0-9999"), 0);
        Bench.due("eat with an error: rust", sealedBy("rust 60;law eat 1/0"), 1);
        Bench.due("eat with an error, no rust", sealedBy("law eat 1/0"), 0);
        Bench.due("eat is asked behind the move", sealedBy("law eat worn*50"), 1);
    }

    /** Which of a row of pushes seal by rust: the same numbers, drawn here once more. */
    private static void numbers() {
        for (int rust : new int[] {1, 2, 20, 40, 60, 98, 99}) {
            numbersOf(rust);
        }
    }

    private static void numbersOf(int rust) {
        StringBuilder text = new StringBuilder("rust " + rust + ";seed 77777;");
        for (int j = 0; j < 8; j++) {
            text.append("latch ").append((char) ('a' + j)).append(" 0;");
        }
        for (int j = 0; j < 8; j++) {
            text.append("push ").append((char) ('a' + j)).append(" 0;");
        }
        long number = 77777;
        int sealed = 0;
        for (int j = 0; j < 8; j++) {
            number = (number * 1103515245L + 12345) % (1L << 31);
            sealed |= number / 65536 % 100 < rust ? 1 << j : 0;
        }
        LeanLatches x = Bench.door(text.toString());
        x.go(1);
        Bench.due("sealed by numbers", x.row(1), sealed);
        // No number is drawn by 0 and by 100, one is drawn though the law of sealing has sealed already.
        x = Bench.door(text + "law eat (place<>1 and place<>2)*" + rust + "+(place=2)*100;law seal place=0;");
        x.go(1);
        number = 77777;
        sealed = 1 | 4;
        for (int j = 0; j < 8; j++) {
            if (j != 1 && j != 2) {
                number = (number * 1103515245L + 12345) % (1L << 31);
                sealed |= number / 65536 % 100 < rust ? 1 << j : 0;
            }
        }
        Bench.due("sealed by numbers and laws", x.row(1), sealed);
    }

    private static void forcing() {
        LeanLatches x = Bench.door("latch a 0;latch b 0;lean b up a;law seal 1;");
        Bench.due("force(1)", x.force(1), 1);
        Bench.due("force(1) again", x.force(1), 0);
        Bench.due("seal(1)", x.seal(1), 1);
        Bench.due("force of a sealed one", x.force(1), 1);
        Bench.due("it stays sealed", x.row(1), 2);
        Bench.due("seal(1) again", x.seal(1), 0);
        Bench.due("no effort", x.count(7), 0);
        Bench.due("nothing worn", x.count(9), 0);
        Bench.due("force(2)", x.force(2), -1);
        Bench.due("force(-1)", x.force(-1), -1);
        Bench.due("seal(2)", x.seal(2), -1);
        Bench.due("seal(-1)", x.seal(-1), -1);
    }

    private static void minutes() {
        LeanLatches x = Bench.door("latch a 0;latch b 0;lean b up a;push b 0;push a 0;push b 0;push b 2;push b 2;"
            + "oil 3;oil 3;push a 3;push a 99;");
        Bench.due("go(0)", x.go(0), 0);
        Bench.due("go(1)", x.go(1), 1);
        Bench.due("pushes by their numbers", x.row(0), 3);
        Bench.due("one in vain", x.count(8), 1);
        Bench.due("effort", x.count(7), 2);
        x.seal(0);
        Bench.due("go(2)", x.go(2), 3);
        Bench.due("there and back", x.row(0), 3);
        Bench.due("still sealed", x.row(1), 1);
        Bench.due("go(1)", x.go(1), 4);
        Bench.due("oil comes ahead of pushes", x.row(0), 2);
        Bench.due("nothing sealed", x.row(1), 0);
        Bench.due("go(96)", x.go(96), 100);
        Bench.due("the push of minute 99", x.row(0), 3);
    }

    private static void limits() {
        LeanLatches x = Bench.door("latch a 0;");
        Bench.due("go(-1)", x.go(-1), -1);
        Bench.due("go(201)", x.go(201), -1);
        for (int i = 1; i < 45; i++) {
            Bench.due("go(200)", x.go(200), 200 * i);
        }
        Bench.due("go(199)", x.go(199), 8999);
        Bench.due("go(2) behind 9000", x.go(2), -1);
        Bench.due("none goes by", x.count(4), 8999);
        Bench.due("go(1)", x.go(1), 9000);
        Bench.due("go(1) behind 9000", x.go(1), -1);
        Bench.due("go(0)", x.go(0), 9000);
        Bench.due("ahead may be behind 9000", x.ahead(200, 4), 0);
    }

    private static void ahead() {
        LeanLatches x = Bench.door("latch a 0;latch b 0;lean b up a;push b 0;push a 0;push b 1;push a 2;"
            + "law effort 3;rust 50;seed 5;");
        Bench.due("ahead(0, 4)", x.ahead(0, 4), 0);
        Bench.due("ahead(1, 0)", x.ahead(1, 0), 1);
        Bench.due("ahead(1, 1)", x.ahead(1, 1), 3);
        Bench.due("ahead(1, 2)", x.ahead(1, 2), 1);
        Bench.due("ahead(1, 3)", x.ahead(1, 3), 1);
        Bench.due("ahead(200, 0)", x.ahead(200, 0), 2);
        Bench.due("ahead(200, 1)", x.ahead(200, 1), 6);
        Bench.due("ahead(200, 2): a is sealed", x.ahead(200, 2), 2);
        Bench.due("ahead(200, 3)", x.ahead(200, 3), 2);
        Bench.due("ahead(200, 4)", x.ahead(200, 4), 3);
        Bench.due("ahead changes nothing", x.count(7) + x.count(8) + x.count(4) + x.row(0) + x.row(1), 0);
        Bench.due("ahead(-1, 0)", x.ahead(-1, 0), -1);
        Bench.due("ahead(201, 0)", x.ahead(201, 0), -1);
        Bench.due("ahead(1, 5)", x.ahead(1, 5), -1);
        Bench.due("ahead(1, -1)", x.ahead(1, -1), -1);
        // More than now: what was before doesn't count.
        x.push(0);
        x.seal(0);
        Bench.due("effort more", x.ahead(1, 1), 6);
    }

    private static void waiting() {
        LeanLatches x = Bench.door("latch a 0;latch b 0;latch c 0;push a 0;push b 2;push b 2;push b 5;push c 99;");
        Bench.due("when(0)", x.when(0), 1);
        Bench.due("when(1): it is as now behind minute 2", x.when(1), 6);
        Bench.due("when(2)", x.when(2), 100);
        x.go(1);
        Bench.due("when(0) later", x.when(0), -2);
        Bench.due("when(2) later", x.when(2), 99);
        Bench.due("when(3)", x.when(3), -1);
        Bench.due("when(-1)", x.when(-1), -1);
        x = Bench.door("latch a 1;latch b 0;push a 3;lean a up b;");
        Bench.due("when in vain", x.when(0), -2);
        x.push(1);
        Bench.due("when it can", x.when(0), 4);
    }

    private static void chances() {
        String text = "latch a 0;latch b 0;push a 0;push b 0;push a 1;oil 3;";
        LeanLatches x = Bench.door(text + "rust 100;");
        Bench.due("chance of 100", x.chance(5, 1, 0), 10);
        Bench.due("chance of oil", x.chance(5, 4, 0), 0);
        x = Bench.door(text);
        Bench.due("chance of 0", x.chance(5, 3, 0), 0);
        x = Bench.door(text + "rust 35;seed 9;");
        for (int seed : new int[] {0, 1, 12345, Integer.MAX_VALUE}) {
            long number = seed;
            int a = 0;
            int b = 0;
            for (int k = 0; k < 10; k++) {
                boolean sealed = false;
                number = (number * 1103515245L + 12345) % (1L << 31);
                sealed = number / 65536 % 100 < 35;
                number = (number * 1103515245L + 12345) % (1L << 31);
                b += number / 65536 % 100 < 35 ? 1 : 0;
                if (!sealed) {
                    number = (number * 1103515245L + 12345) % (1L << 31);
                    sealed = number / 65536 % 100 < 35;
                }
                a += sealed ? 1 : 0;
            }
            Bench.due("chance of a from " + seed, x.chance(seed, 2, 0), a);
            Bench.due("chance of b from " + seed, x.chance(seed, 2, 1), b);
        }
        Bench.due("nothing is changed", x.count(4) + x.count(6) + x.count(9), 0);
        Bench.due("a seed below 0", x.chance(-1, 1, 0), -1);
        Bench.due("n 0", x.chance(1, 0, 0), -1);
        Bench.due("n 99", x.chance(1, 99, 0), 0);
        Bench.due("n 100", x.chance(1, 100, 0), -1);
        Bench.due("no such latch", x.chance(1, 1, 2), -1);
        Bench.due("no such latch", x.chance(1, 1, -1), -1);
    }

    private static void trials() {
        LeanLatches x = Bench.door("latch a 0;latch b 0;lean b up a;push b 0;push a 1;push b 2;push a 3;push b 4;"
            + "oil 3;law effort place+1;law eat (place=0)*60;law seal place=1;");
        // As it goes: b in vain, a (1, sealed), b (2, sealed), oil, a (1, sealed), b in vain.
        Bench.due("as it goes", x.ahead(5, 1), 4);
        Bench.due("0: nothing sealed", x.tried(0, 0, 5), 4);
        Bench.due("0: before the oil", x.tried(0, 0, 3), 3);
        Bench.due("1: nothing leans", x.tried(1, 0, 5), 6);
        Bench.due("2: a isn't pushed", x.tried(2, 0, 5), 0);
        Bench.due("2: b isn't pushed", x.tried(2, 1, 5), 2);
        Bench.due("3: no oil", x.tried(3, 0, 5), 3);
        Bench.due("4: each twice", x.tried(4, 0, 5), 4);
        Bench.due("n 0", x.tried(0, 0, 0), 0);
        Bench.due("n 200", x.tried(0, 0, 200), 4);
        Bench.due("n 201", x.tried(0, 0, 201), -1);
        Bench.due("n -1", x.tried(0, 0, -1), -1);
        Bench.due("what 5", x.tried(5, 0, 1), -1);
        Bench.due("what -1", x.tried(-1, 0, 1), -1);
        Bench.due("i 1 of 0", x.tried(0, 1, 1), -1);
        Bench.due("i 1 of 4", x.tried(4, 1, 1), -1);
        Bench.due("i 2 of 2", x.tried(2, 2, 1), -1);
        Bench.due("i -1 of 2", x.tried(2, -1, 1), -1);
        x.seal(0);
        Bench.due("0: what is sealed stays so until oil", x.tried(0, 0, 5), 3);
        Bench.due("1: sealed ones aren't moved", x.tried(1, 0, 2), 2);
        Bench.due("nothing is changed", x.count(4) + x.count(7) + x.count(9), 0);
    }

    private static void undoing() {
        LeanLatches x = Bench.door("latch a 0;latch b 1;law seal place=0;law effort 7;");
        Bench.due("nothing to undo", x.undo(), -1);
        x.push(0);
        x.force(0);
        x.seal(1);
        Bench.due("undo a sealing", x.undo(), 2);
        Bench.due("sealed", x.row(1), 1);
        Bench.due("undo a forcing", x.undo(), 1);
        Bench.due("the row", x.row(0), 3);
        Bench.due("undo a push", x.undo(), 0);
        Bench.due("the row at first", x.row(0), 2);
        Bench.due("all that came of it", x.row(1) + x.count(7) + x.count(9), 0);
        x.force(0);
        x.go(0);
        Bench.due("no minute went by", x.count(12), 1);
        x.go(201);
        Bench.due("none does", x.count(12), 1);
        x.go(1);
        Bench.due("a minute went by", x.undo(), -1);
        for (int i = 0; i < 25; i++) {
            x.force(1);
        }
        for (int i = 19; i >= 0; i--) {
            Bench.due("undo of 20", x.undo(), i);
        }
        Bench.due("no more than 20", x.undo(), -1);
        Bench.due("the five before stay", x.latch(1, 0), 0);
    }

    private static void images() {
        LeanLatches x = Bench.door("latch a 0;latch b 1;latch c 0;push a 2;push c 3;push b 3;rust 50;seed 3;");
        Bench.due("back without an image", x.back(), -1);
        x.go(3);
        x.seal(1);
        Bench.due("keep", x.keep(), 3);
        Bench.due("keeping leaves what can be undone", x.count(12), 1);
        int row = x.row(0);
        int sealed = x.row(1);
        x.go(1);
        int later = x.row(1);
        x.note(0, 0, true);
        x.known(0);
        x.force(2);
        Bench.due("back", x.back(), 3);
        Bench.due("the row", x.row(0), row);
        Bench.due("sealed ones", x.row(1), sealed);
        Bench.due("vain", x.count(8), 0);
        Bench.due("worn", x.count(9), 1);
        Bench.due("effort", x.count(7), 1);
        Bench.due("nothing to undo", x.undo(), -1);
        Bench.due("notes stay", x.count(10), 1);
        Bench.due("what is known stays", x.count(11), 0);
        x.go(1);
        Bench.due("numbers are those behind the image", x.row(1), later);
        Bench.due("back once more", x.back(), 3);
        x.go(5);
        Bench.due("keep in place of it", x.keep(), 8);
        x.go(5);
        Bench.due("back to that", x.back(), 8);
    }
}
