import java.lang.management.ManagementFactory;
import java.util.Random;

/** What the dearest runs make, that they end soon, and that no argument in any state makes a call throw. */
public final class RoomTest {
    private static final Dues DUES = new Dues();
    private static final int[] EDGES = {Integer.MIN_VALUE, Integer.MIN_VALUE + 1, -1000000004, -51, -2, -1, 0, 1, 2, 3, 4, 7, 8, 9, 13,
        14, 40, 41, 60, 255, 256, 4095, 4096, 65535, 65536, 1 << 24, Integer.MAX_VALUE - 1, Integer.MAX_VALUE};
    private static final String LARGEST = "letter 4;" + "word name 51 52;word turn 60 40;word deed 13 77;word name 99 0;"
        + "word turn 45 61;word link 50 50;word name 3 98;word deed 70 30;" + "frame name,name,name,name;"
        + "frame name,turn,name,deed;frame turn,deed,name,name;frame deed,name,turn,link;pair 0 1 60 70;pair 1 2 0 99;";

    private static com.sun.management.ThreadMXBean threads;
    private static long thread;

    public static void main(String[] args) {
        threads = (com.sun.management.ThreadMXBean) ManagementFactory.getThreadMXBean();
        thread = Thread.currentThread().getId();
        rows();
        dearest();
        growing();
        manyTongues();
        anyArguments();
        DUES.close("RoomTest");
    }

    private static long made() {
        return threads.getThreadAllocatedBytes(thread);
    }

    private static void makesLess(String what, long bytes, long bound) {
        DUES.holds(what + ": " + bytes + " bytes", bytes < bound);
    }

    private static OneWordLetters largest() {
        OneWordLetters x = Dues.speaking(LARGEST);
        DUES.due("the largest tongue", x.told(1) * 1000 + x.told(2) * 10 + x.told(0), 8044);
        return x;
    }

    /** A new object is small, and only a tongue makes rows. */
    private static void rows() {
        new OneWordLetters();
        long before = made();
        OneWordLetters x = new OneWordLetters();
        makesLess("a new object", made() - before, 40_000);
        Dues.feedText(x, LARGEST);
        before = made();
        x.tongue();
        makesLess("the largest tongue", made() - before, 500_000);
        useEverything(x);
        before = made();
        useEverything(x);
        makesLess("all other calls make nothing", made() - before, 2_000);
    }

    private static void useEverything(OneWordLetters x) {
        for (int k = 0; k < 20; k++) {
            x.law(k % 3);
            x.way(k % 2);
            x.change(k * 7, -1);
            x.begin(k * 9, k % 2);
            x.send(k);
            x.settle();
            x.fewest(k, 4095 - k, k % 4 == 0);
            x.still(k);
            x.ahead(k, k % 2, k % 9, k % 5);
            x.first(k, k % 9);
            x.carrier(k, k + 1, -1);
            x.guess(k % 2);
            x.mean(k % 6, k % 8, k);
            x.fits(k % 6);
            x.write(k);
            x.judge();
            x.begin(k * 9, k % 2);
            x.drift(40);
            x.keep(k % 2);
            x.goBack(k % 2);
            x.tear();
        }
    }

    private static void dearest() {
        OneWordLetters x = largest();
        x.way(1);
        long begun = System.nanoTime();
        for (int k = 0; k < 256; k++) {
            x.law(k % 2 * 2);
            x.first(k * 16, 8);
        }
        for (int k = 0; k < 256; k++) {
            x.law(k % 2);
            x.still(k);
            x.fewest(k, 4095 - k, true);
        }
        DUES.holds("the dearest runs end soon", System.nanoTime() - begun < 120_000_000_000L);
    }

    /** Each tongue larger than the one before it, then small ones again: rows are made for the largest alone. */
    private static void growing() {
        OneWordLetters x = new OneWordLetters();
        long before = made();
        for (int length = 2; length <= 4; length++) {
            for (int words = 1; words <= 8; words++) {
                Dues.feedText(x, "letter " + length + ";" + "word name 1 1;".repeat(words));
                int letters = x.tongue();
                DUES.due("letters", letters, Math.round(Math.pow(words, length)));
                DUES.due("last letter", x.at(letters - 1, length - 1), words - 1);
                x.way(1);
                DUES.due("far end", x.fewest(0, letters - 1, true), words == 1 ? 0 : length);
            }
        }
        makesLess("growing", made() - before, 1_500_000);
    }

    /** What is answered behind 512 calls is free, but a call ends there too: without a memory this one takes minutes. */
    private static void manyTongues() {
        OneWordLetters x = new OneWordLetters();
        for (int k = 0; k < 11000; k++) {
            x.tongue();
        }
        Dues.feedText(x, "letter 3;" + "word name 51 49;word name 48 53;".repeat(3) + "frame name,name,name;");
        x.tongue();
        x.law(2);
        long begun = System.nanoTime();
        x.first(0, 8);
        DUES.holds("looking ahead behind many tongues ends soon", System.nanoTime() - begun < 5_000_000_000L);
    }

    private static void anyArguments() {
        Random random = new Random(11);
        for (int run = 0; run < 40; run++) {
            OneWordLetters x = run % 4 == 0 ? new OneWordLetters() : run % 4 == 1 ? largest() : Dues.speaking(
                "letter " + (2 + run % 3) + ";" + "word name 1 99;word turn 60 40;".repeat(1 + run % 4) + "frame name,turn;");
            for (int k = 0; k < 700; k++) {
                any(x, random.nextInt(31), new int[] {edge(random), edge(random), edge(random), edge(random)});
            }
        }
        DUES.holds("no call threw", true);
    }

    private static int edge(Random random) {
        return random.nextInt(3) == 0 ? random.nextInt(64) : EDGES[random.nextInt(EDGES.length)];
    }

    private static int any(OneWordLetters x, int call, int[] a) {
        return switch (call) {
            case 0 -> x.feed(a[0], a[1] * 4294967297L);
            case 1 -> a[0] == 0 ? x.tongue() : x.fault();
            case 2 -> x.fault();
            case 3 -> x.told(a[0]);
            case 4 -> x.word(a[0], a[1]);
            case 5 -> x.at(a[0], a[1]);
            case 6 -> x.stands(a[0]);
            case 7 -> x.worth(a[0], a[1]);
            case 8 -> x.law(a[0]);
            case 9 -> x.way(a[0]);
            case 10 -> x.change(a[0], a[1]);
            case 11 -> x.begin(a[0], a[1]);
            case 12 -> x.send(a[0]);
            case 13 -> x.settle();
            case 14 -> x.had(a[0]);
            case 15 -> x.log(a[0], a[1]);
            case 16 -> x.fewest(a[0], a[1], a[2] > 0);
            case 17 -> x.still(a[0]);
            case 18 -> x.ahead(a[0], a[1], a[2], a[3]);
            case 19 -> x.first(a[0], a[1]);
            case 20 -> x.carrier(a[0], a[1], a[2]);
            case 21 -> x.guess(a[0]);
            case 22 -> x.mean(a[0], a[1], a[2]);
            case 23 -> x.fits(a[0]);
            case 24 -> x.write(a[0]);
            case 25 -> x.tear();
            case 26 -> x.judge();
            case 27 -> x.drift(a[0]);
            case 28 -> x.seed(a[0]);
            case 29 -> x.keep(a[0]);
            default -> x.goBack(a[0]);
        };
    }
}
