import java.nio.charset.StandardCharsets;
import java.util.List;

/** What all tests share: counting answers that are not as due, and feeding a text. */
final class Dues {
    private int asked = 0;
    private int wrong = 0;

    void due(String what, long got, long want) {
        asked++;
        if (got != want) {
            wrong++;
            if (wrong <= 40) {
                System.out.println(what + " answered " + got + ", due is " + want);
            }
        }
    }

    void holds(String what, boolean so) {
        due(what, so ? 1 : 0, 1);
    }

    /** Two lists of what was seen, told by their first unlike row. */
    void same(String what, List<String> got, List<String> want) {
        asked++;
        int k = 0;
        while (k < got.size() && k < want.size() && got.get(k).equals(want.get(k))) {
            k++;
        }
        if (k < got.size() || k < want.size()) {
            wrong++;
            System.out.println(what + ": " + (k < got.size() ? got.get(k) : "no more") + ", due is "
                + (k < want.size() ? want.get(k) : "no more"));
        }
    }

    void close(String name) {
        System.out.println(name + ": " + asked + " answers, " + wrong + " not as due");
        if (wrong != 0 || asked == 0) {
            System.exit(1);
        }
    }

    static long pack(byte[] bytes, int from, int n) {
        long packed = 0;
        for (int k = 0; k < n; k++) {
            packed = packed << 8 | bytes[from + k] & 255;
        }
        return packed;
    }

    static void feedText(OneWordLetters x, String text) {
        byte[] bytes = text.getBytes(StandardCharsets.ISO_8859_1);
        for (int from = 0; from < bytes.length; from += 8) {
            int n = Math.min(8, bytes.length - from);
            x.feed(n, pack(bytes, from, n));
        }
    }

    static OneWordLetters speaking(String text) {
        OneWordLetters x = new OneWordLetters();
        feedText(x, text);
        x.tongue();
        return x;
    }
}
