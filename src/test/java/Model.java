import java.util.ArrayDeque;
import java.util.ArrayList;
import java.util.Arrays;
import java.util.HashMap;
import java.util.LinkedHashSet;
import java.util.List;
import java.util.Map;

/** The document once more, in its plainest words: letters are lists of words, nothing is kept from call to call. */
final class Model {
    static final int NONE = -1;
    static final int UNKNOWN = -1000000001;
    static final int OUTSIDE = -1000000002;
    static final int NOT = -1000000003;
    static final int FULL = -1000000004;
    private static final List<String> KINDS = List.of("name", "deed", "link", "turn");

    private static final class Fault extends Exception {
        private static final long serialVersionUID = 1L;
        private final int number;
        private final int place;

        Fault(int number, int place) {
            this.number = number;
            this.place = place;
        }
    }

    private record Token(char sort, String text, int place) { }

    private record Entry(int house, int from, int to) { }

    private record Guess(int house, int[] worths) { }

    private record End(int letter, int sent, int first) { }

    private static final class Speech {
        private int length;
        private final List<int[]> words = new ArrayList<>();
        private final List<List<Integer>> frames = new ArrayList<>();
        private final Map<List<Integer>, int[]> pairs = new HashMap<>();
    }

    private static final class State {
        private int letter;
        private int turn;
        private boolean settled;
        private int[] had = new int[2];
        private List<Entry> log = new ArrayList<>();
        private int law;
        private int way;
        private long seed;

        State copy() {
            State other = new State();
            other.letter = letter;
            other.turn = turn;
            other.settled = settled;
            other.had = had.clone();
            other.log = new ArrayList<>(log);
            other.law = law;
            other.way = way;
            other.seed = seed;
            return other;
        }
    }

    private final StringBuilder text = new StringBuilder();
    private int fault = NONE;
    private Speech speech = new Speech();
    private State now = new State();
    private final State[] images = new State[2];
    private final List<Guess> guesses = new ArrayList<>();
    private final List<Integer> book = new ArrayList<>();

    // ---- the tongue

    int feed(int n, long bytes) {
        if (n < 1 || n > 8) return OUTSIDE;
        if (text.length() + n > 500) return FULL;
        for (int k = n - 1; k >= 0; k--) text.append((char) (bytes >> 8 * k & 255));
        return text.length();
    }

    int tongue() {
        String all = text.toString();
        text.setLength(0);
        fault = NONE;
        try {
            speech = parse(all);
        } catch (Fault f) {
            fault = f.place;
            return -10 - f.number;
        }
        State next = new State();
        next.law = now.law;
        next.way = now.way;
        next.seed = now.seed;
        now = next;
        images[0] = null;
        images[1] = null;
        guesses.clear();
        book.clear();
        return letters();
    }

    private static List<Token> tokens(String all) {
        List<Token> list = new ArrayList<>();
        java.util.regex.Matcher m = java.util.regex.Pattern.compile("([a-z]+)|([0-9]+)|( +)|([^a-z0-9 ])", java.util.regex.Pattern.DOTALL).matcher(all);
        while (m.find()) {
            if (m.group(1) != null) list.add(new Token('w', m.group(), m.start()));
            if (m.group(2) != null) list.add(new Token('n', m.group(), m.start()));
            if (m.group(4) != null) list.add(new Token('s', m.group(), m.start()));
        }
        list.add(new Token('e', "", all.length()));
        return list;
    }

    private static Token next(ArrayDeque<Token> rest, char sort) throws Fault {
        Token token = rest.peek();
        if (token.sort() != sort) throw new Fault(1, token.place());
        return rest.poll();
    }

    private static void sign(ArrayDeque<Token> rest, String sign) throws Fault {
        Token token = next(rest, 's');
        if (!token.text().equals(sign)) throw new Fault(1, token.place());
    }

    private static int number(ArrayDeque<Token> rest, int low, int high) throws Fault {
        Token token = next(rest, 'n');
        if (token.text().length() > 3) throw new Fault(2, token.place());
        int value = Integer.parseInt(token.text());
        if (value < low || value > high) throw new Fault(2, token.place());
        return value;
    }

    private static int kind(ArrayDeque<Token> rest) throws Fault {
        Token token = next(rest, 'w');
        if (!KINDS.contains(token.text())) throw new Fault(1, token.place());
        return KINDS.indexOf(token.text());
    }

    private static Speech parse(String all) throws Fault {
        ArrayDeque<Token> rest = new ArrayDeque<>(tokens(all));
        Speech s = new Speech();
        boolean begun = false;
        while (rest.peek().sort() != 'e') {
            Token token = next(rest, 'w');
            String what = token.text();
            if (!begun && !what.equals("letter")) throw new Fault(1, token.place());
            switch (what) {
                case "letter" -> {
                    if (begun) throw new Fault(3, token.place());
                    begun = true;
                    s.length = number(rest, 2, 4);
                }
                case "word" -> {
                    if (s.words.size() == 8) throw new Fault(3, token.place());
                    int kind = kind(rest);
                    int a = number(rest, 0, 99) - 50;
                    s.words.add(new int[] {kind, a, number(rest, 0, 99) - 50});
                }
                case "frame" -> {
                    if (s.frames.size() == 8) throw new Fault(3, token.place());
                    List<Integer> frame = new ArrayList<>();
                    frame.add(kind(rest));
                    while (frame.size() < s.length) {
                        sign(rest, ",");
                        frame.add(kind(rest));
                    }
                    s.frames.add(frame);
                }
                case "pair" -> {
                    if (s.pairs.size() == 12) throw new Fault(3, token.place());
                    int w = number(rest, 0, s.words.size() - 1);
                    int place = rest.peek().place();
                    int x = number(rest, 0, s.words.size() - 1);
                    if (s.pairs.containsKey(List.of(w, x))) throw new Fault(4, place);
                    int a = number(rest, 0, 99) - 50;
                    s.pairs.put(List.of(w, x), new int[] {a, number(rest, 0, 99) - 50});
                }
                default -> throw new Fault(1, token.place());
            }
            sign(rest, ";");
        }
        return s;
    }

    int fault() {
        return fault;
    }

    private int letters() {
        int n = speech.words.size();
        int all = 1;
        for (int k = 0; k < speech.length; k++) all *= n;
        return n == 0 ? 0 : all;
    }

    private boolean noLetter(int letter) {
        return letter < 0 || letter >= letters();
    }

    private boolean noHouse(int h) {
        return h != 0 && h != 1;
    }

    private int[] split(int letter) {
        int[] row = new int[speech.length];
        int left = letter;
        for (int k = 0; k < row.length; k++) {
            row[k] = left % speech.words.size();
            left /= speech.words.size();
        }
        return row;
    }

    private int join(int[] row) {
        int letter = 0;
        for (int k = row.length - 1; k >= 0; k--) letter = letter * speech.words.size() + row[k];
        return letter;
    }

    private boolean sense(int letter) {
        List<Integer> kinds = new ArrayList<>();
        for (int w : split(letter)) kinds.add(speech.words.get(w)[0]);
        return speech.frames.contains(kinds);
    }

    private int weigh(int letter, int h, int[] means) {
        if (!sense(letter)) return 0;
        int[] row = split(letter);
        int sum = 0;
        for (int k = 0; k < row.length; k++) {
            int own = means == null ? speech.words.get(row[k])[1 + h] : means[row[k]];
            boolean turned = k > 0 && speech.words.get(row[k - 1])[0] == 3;
            sum += turned ? -own : own;
            int[] pair = k > 0 ? speech.pairs.get(List.of(row[k - 1], row[k])) : null;
            if (pair != null) sum += pair[h];
        }
        return sum;
    }

    private List<Integer> changes(int letter, boolean nonsense) {
        LinkedHashSet<Integer> set = new LinkedHashSet<>();
        int[] row = split(letter);
        if (now.law != 1) {
            for (int p = 0; p < row.length; p++) {
                for (int w = 0; w < speech.words.size(); w++) {
                    int[] other = row.clone();
                    other[p] = w;
                    if (w != row[p]) set.add(join(other));
                }
            }
        }
        if (now.law != 0) {
            for (int p = 0; p + 1 < row.length; p++) {
                int[] other = row.clone();
                other[p] = row[p + 1];
                other[p + 1] = row[p];
                if (row[p] != row[p + 1]) set.add(join(other));
            }
        }
        List<Integer> list = new ArrayList<>();
        for (int c : set) if (nonsense || sense(c)) list.add(c);
        return list;
    }

    private List<Integer> changes(int letter) {
        return changes(letter, now.way == 1);
    }

    private static int pick(List<Integer> list, int i) {
        if (i == NONE) return list.size();
        return i >= 0 && i < list.size() ? list.get(i) : NONE;
    }

    private List<Integer> standing() {
        List<Integer> list = new ArrayList<>();
        for (int k = 0; k < letters(); k++) if (sense(k)) list.add(k);
        return list;
    }

    int told(int what) {
        if (what < 0 || what > 13) return OUTSIDE;
        return new int[] {speech.length, speech.words.size(), speech.frames.size(), speech.pairs.size(), text.length(),
            now.law, now.way, now.letter, now.turn, now.settled ? 1 : 0, now.log.size(), guesses.size(), book.size(),
            what == 13 ? standing().size() : 0}[what];
    }

    int word(int w, int what) {
        if (w < 0 || w >= speech.words.size()) return UNKNOWN;
        if (what < 0 || what > 2) return OUTSIDE;
        return speech.words.get(w)[what];
    }

    int at(int letter, int place) {
        if (noLetter(letter) || place < 0 || place >= speech.length) return OUTSIDE;
        return split(letter)[place];
    }

    int stands(int letter) {
        if (noLetter(letter)) return OUTSIDE;
        return sense(letter) ? 1 : 0;
    }

    int worth(int h, int letter) {
        if (noHouse(h)) return UNKNOWN;
        if (noLetter(letter)) return OUTSIDE;
        return weigh(letter, h, null);
    }

    int law(int v) {
        if (v < 0 || v > 2) return OUTSIDE;
        int was = now.law;
        now.law = v;
        return was;
    }

    int way(int v) {
        if (v < 0 || v > 1) return OUTSIDE;
        int was = now.way;
        now.way = v;
        return was;
    }

    int change(int letter, int i) {
        if (noLetter(letter)) return OUTSIDE;
        return pick(changes(letter), i);
    }

    // ---- the correspondence

    int begin(int letter, int h) {
        if (noHouse(h)) return UNKNOWN;
        if (noLetter(letter)) return OUTSIDE;
        int was = now.letter;
        now.letter = letter;
        now.turn = h;
        now.settled = false;
        return was;
    }

    private void pass(int letter) {
        if (now.log.size() < 60) now.log.add(new Entry(now.turn, now.letter, letter));
        now.letter = letter;
        now.turn = 1 - now.turn;
    }

    int send(int letter) {
        if (noLetter(letter)) return OUTSIDE;
        if (now.settled || !changes(now.letter).contains(letter)) return NOT;
        if (now.log.size() == 60) return FULL;
        pass(letter);
        return now.turn;
    }

    private void share() {
        now.had[0] += weigh(now.letter, 0, null);
        now.had[1] += weigh(now.letter, 1, null);
    }

    int settle() {
        if (now.settled || letters() == 0) return NOT;
        share();
        now.settled = true;
        return weigh(now.letter, now.turn, null);
    }

    int had(int h) {
        return noHouse(h) ? UNKNOWN : now.had[h];
    }

    int log(int i, int what) {
        if (what < 0 || what > 2) return OUTSIDE;
        if (i < 0 || i >= now.log.size()) return NONE;
        Entry e = now.log.get(i);
        return what == 0 ? e.house() : what == 1 ? e.from() : e.to();
    }

    // ---- tried

    int fewest(int from, int to, boolean any) {
        if (noLetter(from) || noLetter(to)) return OUTSIDE;
        Map<Integer, Integer> steps = new HashMap<>();
        ArrayDeque<Integer> queue = new ArrayDeque<>();
        steps.put(from, 0);
        queue.add(from);
        while (!queue.isEmpty()) {
            int u = queue.poll();
            if (u == to) return steps.get(u);
            if (u != from && !any && !sense(u)) continue;
            for (int c : changes(u, true)) {
                if (!steps.containsKey(c)) {
                    steps.put(c, steps.get(u) + 1);
                    queue.add(c);
                }
            }
        }
        return NONE;
    }

    int still(int i) {
        List<Integer> list = new ArrayList<>();
        for (int letter : standing()) {
            boolean moved = false;
            for (int c : changes(letter)) {
                moved |= weigh(c, 0, null) > weigh(letter, 0, null) || weigh(c, 1, null) > weigh(letter, 1, null);
            }
            if (!moved) list.add(letter);
        }
        return pick(list, i);
    }

    private End look(int letter, int h, int n, Map<List<Integer>, End> known) {
        if (n == 0) return new End(letter, 0, NONE);
        List<Integer> key = List.of(letter, h, n);
        End best = known.get(key);
        if (best != null) return best;
        best = new End(letter, 0, NONE);
        for (int c : changes(letter)) {
            End end = look(c, 1 - h, n - 1, known);
            if (weigh(end.letter(), h, null) > weigh(best.letter(), h, null)) {
                best = new End(end.letter(), end.sent() + 1, c);
            }
        }
        known.put(key, best);
        return best;
    }

    int ahead(int letter, int h, int n, int what) {
        if (noHouse(h)) return UNKNOWN;
        if (noLetter(letter) || n < 0 || n > 8 || what < 0 || what > 4) return OUTSIDE;
        End end = look(letter, h, n, new HashMap<>());
        return switch (what) {
            case 0, 1 -> weigh(end.letter(), what, null);
            case 2 -> end.letter();
            case 3 -> end.sent();
            default -> end.first();
        };
    }

    int first(int letter, int n) {
        if (noLetter(letter) || n < 0 || n > 8) return OUTSIDE;
        return ahead(letter, 0, n, 0) - ahead(letter, 1, n, 0);
    }

    int carrier(int p, int g, int i) {
        if (noLetter(p) || noLetter(g)) return OUTSIDE;
        List<Integer> list = new ArrayList<>();
        for (int c : changes(p)) {
            int[] one = split(c);
            int[] other = split(g);
            int apart = 0;
            for (int k = 0; k < one.length; k++) if (one[k] != other[k]) apart++;
            if (apart < 2) list.add(c);
        }
        return pick(list, i);
    }

    // ---- guesses

    int guess(int h) {
        if (noHouse(h)) return UNKNOWN;
        if (guesses.size() == 6) return FULL;
        guesses.add(new Guess(h, new int[8]));
        return guesses.size() - 1;
    }

    int mean(int g, int w, int v) {
        if (g < 0 || g >= guesses.size() || w < 0 || w >= speech.words.size()) return UNKNOWN;
        if (v < -50 || v > 49) return OUTSIDE;
        int was = guesses.get(g).worths()[w];
        guesses.get(g).worths()[w] = v;
        return was;
    }

    int fits(int g) {
        if (g < 0 || g >= guesses.size()) return UNKNOWN;
        Guess guess = guesses.get(g);
        for (Entry e : now.log) {
            if (e.house() != guess.house()) continue;
            List<Integer> all = new ArrayList<>(changes(e.from()));
            all.add(e.from());
            for (int c : all) {
                if (weigh(c, guess.house(), guess.worths()) > weigh(e.to(), guess.house(), guess.worths())) return 0;
            }
        }
        return 1;
    }

    // ---- books, draws, images

    int write(int letter) {
        if (noLetter(letter)) return OUTSIDE;
        if (book.size() == 30) return FULL;
        book.add(letter);
        return book.size();
    }

    int tear() {
        int both = book.size() + guesses.size();
        book.clear();
        guesses.clear();
        return both;
    }

    int judge() {
        for (int i = 1; i < book.size(); i++) {
            if (!changes(book.get(i - 1)).contains(book.get(i))) return i;
        }
        return NONE;
    }

    private int draw(int n) {
        now.seed = (now.seed * 1103515245L + 12345L) % (1L << 31);
        return (int) (now.seed / 65536 % n);
    }

    int drift(int n) {
        if (n < 1 || n > 40) return OUTSIDE;
        if (letters() == 0 || now.settled) return NOT;
        for (int k = 0; k < n; k++) {
            if (draw(4) == 0) {
                List<Integer> list = changes(now.letter);
                if (!list.isEmpty()) pass(list.get(draw(list.size())));
                continue;
            }
            int next = ahead(now.letter, now.turn, 2, 4);
            if (next != NONE) {
                pass(next);
            } else {
                share();
                now.turn = 1 - now.turn;
            }
        }
        return now.letter;
    }

    int seed(int v) {
        if (v < 0) return OUTSIDE;
        int was = (int) now.seed;
        now.seed = v;
        return was;
    }

    int keep(int i) {
        if (i != 0 && i != 1) return UNKNOWN;
        images[i] = now.copy();
        return 1;
    }

    int goBack(int i) {
        if (i != 0 && i != 1) return UNKNOWN;
        if (images[i] == null) return NOT;
        now = images[i].copy();
        return 1;
    }

    /** For a message when an answer differs. */
    @Override
    public String toString() {
        return "L " + speech.length + ", words " + Arrays.deepToString(speech.words.toArray()) + ", frames " + speech.frames;
    }
}
