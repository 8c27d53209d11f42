import java.util.ArrayList;
import java.util.List;

/**
 * All that an object can be seen to hold, asked in one order. The asking uses the object up, so that also what cannot
 * be asked for by itself (images, the book, the text, the seed) is brought to light. It takes some 220 calls, so
 * that with some 200 calls that made the object it stays under the document's 512.
 */
final class Probe {
    private final OneWordLetters x;
    private final List<String> seen = new ArrayList<>();
    private int words;

    private Probe(OneWordLetters x) {
        this.x = x;
    }

    /** Without the byte of the fault, which a text with a fault changes. */
    static List<String> of(OneWordLetters x) {
        Probe probe = new Probe(x);
        probe.tongue();
        probe.course("now");
        probe.guesses();
        probe.book();
        probe.drift();
        for (int i = 0; i < 2; i++) {
            probe.see("goBack(" + i + ")", x.goBack(i));
            probe.course("image " + i);
        }
        probe.text();
        return probe.seen;
    }

    static List<String> withFault(OneWordLetters x) {
        int fault = x.fault();
        List<String> all = of(x);
        all.add("fault() " + fault);
        return all;
    }

    private void see(String call, int answer) {
        seen.add(call + " " + answer);
    }

    private void tongue() {
        for (int what = 0; what < 14; what++) {
            see("told(" + what + ")", x.told(what));
        }
        words = x.told(1);
        for (int w = 0; w < words; w++) {
            for (int what = 0; what < 3; what++) {
                see("word(" + w + ", " + what + ")", x.word(w, what));
            }
        }
        for (int letter = 0; letter < 16; letter++) {
            see("worth(0, " + letter + ")", x.worth(0, letter));
            see("worth(1, " + letter + ")", x.worth(1, letter));
        }
    }

    private void course(String when) {
        for (int what = 5; what <= 10; what++) {
            see(when + ": told(" + what + ")", x.told(what));
        }
        see(when + ": had(0)", x.had(0));
        see(when + ": had(1)", x.had(1));
        int seed = x.seed(0);
        see(when + ": seed", seed);
        x.seed(seed);
        int sent = x.told(10);
        for (int i : new int[] {0, 1, 2, 3, 59}) {
            for (int what = 0; what < 3 && i < sent; what++) {
                see(when + ": log(" + i + ", " + what + ")", x.log(i, what));
            }
        }
    }

    private void guesses() {
        int count = x.told(11);
        for (int g = 0; g <= 6; g++) {
            see("fits(" + g + ")", x.fits(g));
            for (int w = 0; w < words && g < count; w++) {
                see("mean(" + g + ", " + w + ")", x.mean(g, w, 0));
            }
        }
    }

    private void book() {
        int law = x.told(5);
        int way = x.told(6);
        for (int k = 0; k < 6; k++) {
            x.law(k / 2);
            x.way(k % 2);
            see("judge() by law " + k / 2 + ", way " + k % 2, x.judge());
        }
        x.law(law);
        x.way(way);
    }

    private void drift() {
        see("drift(3)", x.drift(3));
        course("behind drift");
    }

    private void text() {
        see("tongue()", x.tongue());
        see("its fault()", x.fault());
        for (int what = 0; what < 4; what++) {
            see("its told(" + what + ")", x.told(what));
        }
        see("its word(0, 0)", x.word(0, 0));
        see("its word(0, 1)", x.word(0, 1));
    }
}
