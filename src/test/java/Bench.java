import java.nio.charset.StandardCharsets;

/** What the tests share: feeding texts, and counting answers that are not the ones due. */
final class Bench {
    private static int wrong;
    private static int asked;
    private static int sentences;
    private static String sentence = "";

    private Bench() {
    }

    /** The sentence of the document by which the answers that follow are due. */
    static void says(String words) {
        sentences++;
        sentence = "[" + words + "] ";
    }

    static void due(String call, long got, long want) {
        asked++;
        if (got != want) {
            wrong++;
            System.out.println(sentence + call + " answered " + got + ", due is " + want);
        }
    }

    /** 1 for an IndexOutOfBoundsException, 2 for a NoSuchElementException, 0 if the call answers. */
    static int thrown(LeanLatches x, int latch, int what) {
        try {
            x.latch(latch, what);
            return 0;
        } catch (IndexOutOfBoundsException e) {
            return 1;
        } catch (java.util.NoSuchElementException e) {
            return 2;
        }
    }

    static int feed(LeanLatches x, String text) {
        byte[] bytes = text.getBytes(StandardCharsets.ISO_8859_1);
        int size = 0;
        for (int at = 0; at < bytes.length; at += 20) {
            int[] five = new int[5];
            for (int i = 0; i < 20; i++) {
                int next = at + i < bytes.length ? bytes[at + i] & 255 : 32;
                five[i / 4] |= next << 24 - 8 * (i % 4);
            }
            size = x.feed(five[0], five[1], five[2], five[3], five[4]);
        }
        return size;
    }

    /** Feeds a text and tells it: how many lines, as text() answers. */
    static int tell(LeanLatches x, String text) {
        feed(x, text);
        return x.text(text.length());
    }

    static LeanLatches door(String text) {
        LeanLatches x = new LeanLatches();
        if (tell(x, text) < 0) {
            wrong++;
            System.out.println("a text that should stand has fault " + x.fault(0) + " at " + x.fault(1) + ": " + text);
        }
        return x;
    }

    /** The text has its fault where the @ stands, which isn't of the text. */
    static void faulty(int fault, String marked) {
        int place = marked.indexOf('@');
        String text = marked.substring(0, place) + marked.substring(place + 1);
        LeanLatches x = new LeanLatches();
        due("text of " + marked, tell(x, text), -1);
        due("fault(0) of " + marked, x.fault(0), fault);
        due("fault(1) of " + marked, x.fault(1), place);
        due("count(0) of " + marked, x.count(0), 0);
    }

    static void fine(String text, int lines, int knots) {
        LeanLatches x = new LeanLatches();
        due("text of " + text, tell(x, text), lines);
        due("fault(0) of " + text, x.fault(0), 0);
        due("fault(1) of " + text, x.fault(1), -1);
        due("count(3) of " + text, x.count(3), knots);
    }

    /** The LINES of so many LATCHES, a and on, all down or all up. */
    static String latches(int n, int up) {
        StringBuilder text = new StringBuilder();
        for (int j = 0; j < n; j++) {
            text.append("latch ").append((char) ('a' + j)).append(' ').append(up).append(';');
        }
        return text.toString();
    }

    /** A text's letters as named() wants them. */
    static int letters(String word) {
        int code = 0;
        for (int i = 0; i < 6; i++) {
            code = code << 5 | (i < word.length() ? word.charAt(i) - 'a' + 1 : 0);
        }
        return code;
    }

    /** What is kept of the last number, and of which the next one is drawn. */
    static long drawn(long last) {
        return (last * 1103515245L + 12345) % (1L << 31);
    }

    /** What is asked of a number that is kept so. */
    static long ofHundred(long drawn) {
        return drawn / 65536 % 100;
    }

    static void end(String name) {
        String told = sentences == 0 ? "" : sentences + " sentences, ";
        System.out.println(name + ": " + told + asked + " answers, " + wrong + " not as due");
        if (wrong != 0) {
            System.exit(1);
        }
    }
}
