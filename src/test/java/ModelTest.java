import java.nio.charset.StandardCharsets;
import java.util.Random;

/** Long runs of calls, drawn by fixed seeds, on the class and on the model side by side. */
public final class ModelTest {
    private static final String[] KINDS = {"name", "deed", "link", "turn"};
    private static final int[] EDGES = {-1, -2, 0, 1, 2, 3, 4, 5, 6, 7, 8, 9, 16, 30, 60, 4095, 4096, 65536,
        Integer.MAX_VALUE, Integer.MIN_VALUE, -1000000001};

    private final Dues dues;
    private final Random random;
    private final OneWordLetters x = new OneWordLetters();
    private final Model m = new Model();
    private final int run;
    private final int mostLetters;
    private int size = 0;
    private int asked = 0;

    private ModelTest(Dues dues, int run, int mostLetters) {
        this.dues = dues;
        this.run = run;
        this.mostLetters = mostLetters;
        random = new Random(run);
    }

    public static void main(String[] args) {
        Dues dues = new Dues();
        for (int run = 0; run < 1500; run++) {
            new ModelTest(dues, run, run % 50 == 0 ? 4096 : 260).go();
        }
        for (int run = 0; run < 4000; run++) {
            new ModelTest(dues, run, 0).texts();
        }
        dues.close("ModelTest");
    }

    private void go() {
        speak();
        int calls = 60 + random.nextInt(300);
        // What is answered behind 512 calls is free, so the last told(..) must come before that.
        for (int k = 0; k < calls && asked < 480; k++) {
            if (random.nextInt(150) == 0 && asked < 250) {
                speak();
            } else {
                call();
            }
        }
        for (int what = 0; what < 14; what++) {
            due("told(" + what + ")", x.told(what), m.told(what));
        }
    }

    private void texts() {
        for (int k = 0; k < 3; k++) {
            feed(spoil(text()));
            due("tongue()", x.tongue(), m.tongue());
            due("fault()", x.fault(), m.fault());
            for (int what = 0; what < 4; what++) {
                due("told(" + what + ")", x.told(what), m.told(what));
            }
        }
    }

    private void due(String call, int got, int want) {
        asked++;
        dues.due("run " + run + ": " + call + " [" + m + "]", got, want);
    }

    private void speak() {
        String text = text();
        feed(random.nextInt(8) == 0 ? spoil(text) : text);
        due("tongue()", x.tongue(), m.tongue());
        due("fault()", x.fault(), m.fault());
        size = size();
        if (size > mostLetters) {
            due("tongue()", x.tongue(), m.tongue());
            size = 0;
        }
    }

    private int size() {
        int all = 1;
        for (int k = 0; k < m.told(0); k++) {
            all *= m.told(1);
        }
        return m.told(1) == 0 ? 0 : all;
    }

    private void feed(String text) {
        byte[] bytes = text.getBytes(StandardCharsets.ISO_8859_1);
        int from = 0;
        while (from < bytes.length) {
            int n = Math.min(1 + random.nextInt(8), bytes.length - from);
            long packed = Dues.pack(bytes, from, n) | (n < 8 ? random.nextLong() << 8 * n : 0);
            due("feed", x.feed(n, packed), m.feed(n, packed));
            from += n;
        }
    }

    private String gap() {
        return random.nextInt(12) == 0 ? " ".repeat(1 + random.nextInt(3)) : "";
    }

    private String text() {
        int length = 2 + random.nextInt(3);
        int words = 1 + random.nextInt(length == 2 ? 8 : length == 3 ? 6 : 4);
        if (mostLetters == 0) {
            words = random.nextInt(10);
        } else if (mostLetters == 4096) {
            words = 5 + random.nextInt(4);
        }
        StringBuilder s = new StringBuilder(gap() + "letter " + length + gap() + ";");
        int kinds = 1 + random.nextInt(4);
        for (int w = 0; w < words; w++) {
            s.append("word ").append(KINDS[3 - random.nextInt(kinds)]).append(' ').append(number()).append(' ').append(number());
            s.append(gap()).append(';').append(gap());
        }
        int frames = random.nextInt(mostLetters == 0 ? 10 : 9);
        for (int f = 0; f < frames; f++) {
            s.append("frame ");
            for (int k = 0; k < length; k++) {
                s.append(k == 0 ? "" : ",").append(gap()).append(KINDS[3 - random.nextInt(kinds)]);
            }
            s.append(gap()).append(';');
        }
        java.util.Set<String> told = new java.util.HashSet<>();
        for (int p = random.nextInt(mostLetters == 0 ? 15 : 10); p > 0 && words > 0; p--) {
            String pair = random.nextInt(words) + " " + random.nextInt(words);
            if (told.add(pair) || mostLetters == 0) {
                s.append("pair ").append(pair).append(' ').append(number()).append(' ').append(number()).append(';');
            }
        }
        return s.length() > 500 ? s.substring(0, 500) : s.toString();
    }

    /** Few worths make many letters of like worth. */
    private int number() {
        return random.nextBoolean() ? random.nextInt(100) : 48 + random.nextInt(5);
    }

    private String spoil(String text) {
        if (text.isEmpty() || random.nextInt(6) == 0) {
            return text;
        }
        int place = random.nextInt(text.length());
        String signs = ";,  0123456789abnw-" + (char) 9 + (char) 200;
        String sign = String.valueOf(signs.charAt(random.nextInt(signs.length())));
        return switch (random.nextInt(5)) {
            case 0 -> text.substring(0, place);
            case 1 -> text.substring(0, place) + text.substring(place + 1);
            case 2 -> text.substring(0, place) + sign + text.substring(place + 1);
            case 3 -> text + text.substring(place);
            default -> text.substring(0, place) + sign + text.substring(place);
        };
    }

    private int letter() {
        if (size == 0 || random.nextInt(25) == 0) {
            return random.nextInt(3) == 0 ? size : edge();
        }
        return random.nextInt(size);
    }

    private int edge() {
        return EDGES[random.nextInt(EDGES.length)];
    }

    private int within(int low, int high) {
        return random.nextInt(25) == 0 ? edge() : low + random.nextInt(high - low + 1);
    }

    private void call() {
        switch (random.nextInt(5)) {
            case 0 -> callTongue();
            case 1 -> callCourse();
            case 2 -> callTried();
            case 3 -> callGuesses();
            default -> callBooks();
        }
    }

    private void callTongue() {
        int letter = letter();
        int i = within(-1, 9);
        switch (random.nextInt(9)) {
            case 0 -> due("told(" + i + ")", x.told(i), m.told(i));
            case 1 -> due("word(" + i + ")", x.word(i, letter % 4), m.word(i, letter % 4));
            case 2 -> due("at(" + letter + ", " + i + ")", x.at(letter, i), m.at(letter, i));
            case 3 -> due("stands(" + letter + ")", x.stands(letter), m.stands(letter));
            case 4 -> {
                int h = within(0, 1);
                due("worth(" + h + ", " + letter + ")", x.worth(h, letter), m.worth(h, letter));
            }
            case 5 -> {
                int v = within(0, 2);
                due("law(" + v + ")", x.law(v), m.law(v));
            }
            case 6 -> {
                int v = within(0, 1);
                due("way(" + v + ")", x.way(v), m.way(v));
            }
            default -> due("change(" + letter + ", " + i + ")", x.change(letter, i), m.change(letter, i));
        }
    }

    private void callCourse() {
        int letter = letter();
        int h = within(0, 1);
        int i = within(-1, 20);
        switch (random.nextInt(9)) {
            case 0 -> due("begin(" + letter + ", " + h + ")", x.begin(letter, h), m.begin(letter, h));
            case 1 -> due("send(" + letter + ")", x.send(letter), m.send(letter));
            case 2 -> due("settle()", x.settle(), m.settle());
            case 3 -> due("had(" + h + ")", x.had(h), m.had(h));
            case 4 -> {
                int what = within(0, 2);
                due("log(" + i + ", " + what + ")", x.log(i, what), m.log(i, what));
            }
            default -> {
                int many = m.change(m.told(7), -1);
                int next = many > 0 ? m.change(m.told(7), random.nextInt(many)) : letter;
                due("send(" + next + ")", x.send(next), m.send(next));
            }
        }
    }

    private void callTried() {
        int letter = letter();
        int other = letter();
        int i = within(-1, 6);
        int n = size > 300 ? random.nextInt(4) : within(0, 8);
        int h = within(0, 1);
        switch (random.nextInt(5)) {
            case 0 -> {
                boolean any = random.nextBoolean();
                due("fewest(" + letter + ", " + other + ", " + any + ")", x.fewest(letter, other, any), m.fewest(letter, other, any));
            }
            case 1 -> due("still(" + i + ")", x.still(i), m.still(i));
            case 2 -> {
                int what = within(0, 4);
                due("ahead(" + letter + ", " + h + ", " + n + ", " + what + ")", x.ahead(letter, h, n, what), m.ahead(letter, h, n, what));
            }
            case 3 -> due("first(" + letter + ", " + n + ")", x.first(letter, n), m.first(letter, n));
            default -> due("carrier(" + letter + ", " + other + ", " + i + ")", x.carrier(letter, other, i), m.carrier(letter, other, i));
        }
    }

    private void callGuesses() {
        int g = within(0, Math.max(0, m.told(11) - 1));
        int w = within(0, Math.max(0, m.told(1) - 1));
        switch (random.nextInt(6)) {
            case 0 -> {
                int h = within(0, 1);
                due("guess(" + h + ")", x.guess(h), m.guess(h));
            }
            case 1, 2 -> due("fits(" + g + ")", x.fits(g), m.fits(g));
            default -> {
                int v = random.nextInt(10) == 0 ? within(-51, 50) : within(-3, 3);
                due("mean(" + g + ", " + w + ", " + v + ")", x.mean(g, w, v), m.mean(g, w, v));
            }
        }
    }

    private void callBooks() {
        int i = within(0, 1);
        switch (random.nextInt(12)) {
            case 0, 1 -> {
                int letter = letter();
                due("write(" + letter + ")", x.write(letter), m.write(letter));
            }
            case 2, 3 -> {
                int last = random.nextInt(Math.max(1, size));
                due("write(" + last + ")", x.write(last), m.write(last));
                for (int k = 0; k < 6; k++) {
                    int many = m.change(last, -1);
                    last = many > 0 ? m.change(last, random.nextInt(many)) : last;
                    due("write(" + last + ")", x.write(last), m.write(last));
                }
            }
            case 4 -> {
                if (random.nextInt(3) == 0) {
                    due("tear()", x.tear(), m.tear());
                }
            }
            case 5, 6 -> due("judge()", x.judge(), m.judge());
            case 7, 8 -> {
                int n = within(1, 40);
                due("drift(" + n + ")", x.drift(n), m.drift(n));
            }
            case 9 -> {
                int v = random.nextInt(10) == 0 ? edge() : random.nextInt(Integer.MAX_VALUE);
                due("seed(" + v + ")", x.seed(v), m.seed(v));
            }
            case 10 -> due("keep(" + i + ")", x.keep(i), m.keep(i));
            default -> due("goBack(" + i + ")", x.goBack(i), m.goBack(i));
        }
    }
}
