import java.nio.charset.StandardCharsets;

/** What the tests share: feeding texts, and counting answers that are not the ones due. */
final class Bench {
    private static int wrong;
    private static int asked;

    private Bench() {
    }

    static void due(String call, long got, long want) {
        asked++;
        if (got != want) {
            wrong++;
            System.out.println(call + " answered " + got + ", due is " + want);
        }
    }

    /** 1 for an IndexOutOfBoundsException, 2 for a NoSuchElementException, 0 if the call answers. */
    static int thrown(LeanLatches x, int latch, int what) {
        try {
            x.latch(latch, what);
            return 0;
        } catch (IndexOutOfBoundsException e) {
            return 1;
        } catch (java.util.NoSuchElementException e) {
            return 2;
        }
    }

    static int feed(LeanLatches x, String text) {
        byte[] bytes = text.getBytes(StandardCharsets.ISO_8859_1);
        int size = 0;
        for (int at = 0; at < bytes.length; at += 20) {
            int[] five = new int[5];
            for (int i = 0; i < 20; i++) {
                int next = at + i < bytes.length ? bytes[at + i] & 255 : 32;
                five[i / 4] |= next << 24 - 8 * (i % 4);
            }
            size = x.feed(five[0], five[1], five[2], five[3], five[4]);
        }
        return size;
    }

    /** Feeds a text and tells it: how many lines, as text() answers. */
    static int tell(LeanLatches x, String text) {
        feed(x, text);
        return x.text(text.length());
    }

    static LeanLatches door(String text) {
        LeanLatches x = new LeanLatches();
        if (tell(x, text) < 0) {
            wrong++;
            System.out.println("a text that should stand has fault " + x.fault(0) + " at " + x.fault(1) + ": " + text);
        }
        return x;
    }

    /** A text's letters as named() wants them. */
    static int letters(String word) {
        int code = 0;
        for (int i = 0; i < 6; i++) {
            code = code << 5 | (i < word.length() ? word.charAt(i) - 'a' + 1 : 0);
        }
        return code;
    }

    static void end(String name) {
        System.out.println(name + ": " + asked + " answers, " + wrong + " not as due");
        if (wrong != 0) {
            System.exit(1);
        }
    }
}
