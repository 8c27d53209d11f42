import java.util.Arrays;

/**
 * Two houses settle things by one letter that goes to and fro, each changing one word in it
 * or sending it back as it came. DOC.md tells what every call answers, as numbered promises.
 */
public final class OneWordLetters {
    public static final int NONE = -1, UNKNOWN = -1000000001, OUTSIDE = -1000000002, NOT = -1000000003, FULL = -1000000004;

    private static final int HOUSES = 2;
    private static final int MOST_BYTES = 500;
    private static final int BYTES_OF_LONG = 8;
    private static final int FEWEST_PLACES = 2;
    private static final int MOST_PLACES = 4;
    private static final int MOST_WORDS = 8;
    private static final int MOST_FRAMES = 8;
    private static final int MOST_PAIRS = 12;
    private static final int MOST_LETTERS = 4096;
    private static final int MOST_CHANGES = 31;
    private static final int MOST_SENT = 60;
    private static final int MOST_MOVES = 8;
    private static final int MOST_GUESSES = 6;
    private static final int MOST_WRITTEN = 30;
    private static final int MOST_DRIFT = 40;
    private static final int IMAGES = 2;
    private static final int KINDS = 4;
    private static final int TURN = 3;
    private static final int ONE_WORD = 0;
    private static final int TURN_ABOUT = 1;
    private static final int EITHER = 2;
    private static final int LAWS_AND_WAYS = 6;
    private static final int LEAST_WORTH = -50;
    private static final int MOST_WORTH = 49;
    private static final int MOVES_OF_DRIFT = 2;
    private static final int FAULT_BASE = -10;
    private static final int MOST_SEED = 2147483647;

    private final Reader reader = new Reader();
    private Tongue spoken = new Tongue();
    private Tongue spare = new Tongue();
    private final Letters letters = new Letters(spoken);
    private final Course now = new Course();
    private final Course[] images = new Course[IMAGES];
    private final int[] kept = new int[IMAGES];
    private final Guess[] guesses = new Guess[MOST_GUESSES];
    private int guessCount;
    private final Row book = new Row(MOST_WRITTEN);
    private final Row changes = new Row(MOST_CHANGES);
    private final Row found = new Row(MOST_CHANGES);
    private Row stillOnes = new Row(0);
    private int stillStamp = NONE;
    private final Paths paths = new Paths(letters);
    private final Foresight foresight = new Foresight(letters);

    public OneWordLetters() {
        for (int i = 0; i < IMAGES; i++) {
            images[i] = new Course();
        }
        for (int g = 0; g < MOST_GUESSES; g++) {
            guesses[g] = new Guess();
        }
    }

    // ---- the tongue

    public int feed(int n, long bytes) {
        if (n < 1 || n > BYTES_OF_LONG) {
            return OUTSIDE;
        }
        return reader.take(n, bytes);
    }

    public int tongue() {
        int number = reader.read(spare);
        if (number != 0) {
            return FAULT_BASE - number;
        }
        Tongue last = spoken;
        spoken = spare;
        spare = last;
        letters.lay(spoken);
        makeRoom(letters.size);
        now.restart();
        guessCount = 0;
        book.empty();
        Arrays.fill(kept, 0);
        return letters.size;
    }

    public int fault() {
        return reader.faultByte;
    }

    public int told(int what) {
        switch (what) {
            case 0: return spoken.length;
            case 1: return spoken.words;
            case 2: return spoken.frames;
            case 3: return spoken.pairs;
            case 4: return reader.length;
            case 5: return now.law;
            case 6: return now.way;
            case 7: return now.letter;
            case 8: return now.turn;
            case 9: return now.settled ? 1 : 0;
            case 10: return now.sent;
            case 11: return guessCount;
            case 12: return book.count;
            case 13: return letters.standing;
            default: return OUTSIDE;
        }
    }

    public int word(int w, int what) {
        if (!isWord(w)) {
            return UNKNOWN;
        }
        if (what < 0 || what > HOUSES) {
            return OUTSIDE;
        }
        return what == 0 ? spoken.kinds[w] : spoken.worths[what - 1][w];
    }

    public int at(int letter, int place) {
        if (!isLetter(letter) || place < 0 || place >= spoken.length) {
            return OUTSIDE;
        }
        return spoken.wordAt(letter, place);
    }

    public int stands(int letter) {
        if (!isLetter(letter)) {
            return OUTSIDE;
        }
        return letters.isSense(letter) ? 1 : 0;
    }

    public int worth(int h, int letter) {
        if (!isHouse(h)) {
            return UNKNOWN;
        }
        if (!isLetter(letter)) {
            return OUTSIDE;
        }
        return letters.worthTo(h, letter);
    }

    public int law(int v) {
        if (v < ONE_WORD || v > EITHER) {
            return OUTSIDE;
        }
        int last = now.law;
        now.law = v;
        return last;
    }

    public int way(int v) {
        if (v < 0 || v > 1) {
            return OUTSIDE;
        }
        int last = now.way;
        now.way = v;
        return last;
    }

    public int change(int letter, int i) {
        if (!isLetter(letter)) {
            return OUTSIDE;
        }
        listChanges(letter);
        return changes.countOrGet(i);
    }

    // ---- the correspondence

    public int begin(int letter, int h) {
        if (!isHouse(h)) {
            return UNKNOWN;
        }
        if (!isLetter(letter)) {
            return OUTSIDE;
        }
        int last = now.letter;
        now.letter = letter;
        now.turn = h;
        now.settled = false;
        return last;
    }

    public int send(int letter) {
        if (!isLetter(letter)) {
            return OUTSIDE;
        }
        if (now.settled || !isChange(now.letter, letter)) {
            return NOT;
        }
        if (now.sent >= MOST_SENT) {
            return FULL;
        }
        now.pass(letter);
        return now.turn;
    }

    public int settle() {
        if (now.settled || letters.size == 0) {
            return NOT;
        }
        giveBoth();
        now.settled = true;
        return letters.worthTo(now.turn, now.letter);
    }

    public int had(int h) {
        if (!isHouse(h)) {
            return UNKNOWN;
        }
        return now.gained[h];
    }

    public int log(int i, int what) {
        if (what < 0 || what > 2) {
            return OUTSIDE;
        }
        return now.entry(i, what);
    }

    // ---- tried

    public int fewest(int from, int to, boolean any) {
        if (!isLetter(from) || !isLetter(to)) {
            return OUTSIDE;
        }
        return paths.shortest(now.law, from, to, any);
    }

    public int still(int i) {
        if (stillStamp != stamp()) {
            listStill();
            stillStamp = stamp();
        }
        return stillOnes.countOrGet(i);
    }

    public int ahead(int letter, int h, int n, int what) {
        if (!isHouse(h)) {
            return UNKNOWN;
        }
        if (!isLetter(letter) || !isMoves(n) || what < 0 || what > 4) {
            return OUTSIDE;
        }
        foresight.useRules(now.law, now.way == 1, stamp());
        if (what == 4) {
            return foresight.firstSent(letter, h, n);
        }
        int end = foresight.look(letter, h, n);
        switch (what) {
            case 2: return end % MOST_LETTERS;
            case 3: return end / MOST_LETTERS;
            default: return letters.worthTo(what, end % MOST_LETTERS);
        }
    }

    public int first(int letter, int n) {
        if (!isLetter(letter) || !isMoves(n)) {
            return OUTSIDE;
        }
        foresight.useRules(now.law, now.way == 1, stamp());
        int own = foresight.look(letter, 0, n) % MOST_LETTERS;
        int other = foresight.look(letter, 1, n) % MOST_LETTERS;
        return letters.worthTo(0, own) - letters.worthTo(0, other);
    }

    public int carrier(int p, int g, int i) {
        if (!isLetter(p) || !isLetter(g)) {
            return OUTSIDE;
        }
        listChanges(p);
        found.empty();
        for (int k = 0; k < changes.count; k++) {
            if (spoken.wordsApart(changes.get(k), g) <= 1) {
                found.add(changes.get(k));
            }
        }
        return found.countOrGet(i);
    }

    // ---- guesses

    public int guess(int h) {
        if (!isHouse(h)) {
            return UNKNOWN;
        }
        if (guessCount >= MOST_GUESSES) {
            return FULL;
        }
        guesses[guessCount].restart(h);
        guessCount++;
        return guessCount - 1;
    }

    public int mean(int g, int w, int v) {
        if (!isGuess(g) || !isWord(w)) {
            return UNKNOWN;
        }
        if (v < LEAST_WORTH || v > MOST_WORTH) {
            return OUTSIDE;
        }
        int last = guesses[g].worths[w];
        guesses[g].worths[w] = v;
        return last;
    }

    public int fits(int g) {
        if (!isGuess(g)) {
            return UNKNOWN;
        }
        Guess guess = guesses[g];
        for (int i = 0; i < now.sent; i++) {
            if (now.entry(i, 0) == guess.house && !explains(guess, now.entry(i, 1), now.entry(i, 2))) {
                return 0;
            }
        }
        return 1;
    }

    // ---- books, draws, images

    public int write(int letter) {
        if (!isLetter(letter)) {
            return OUTSIDE;
        }
        if (book.count >= MOST_WRITTEN) {
            return FULL;
        }
        book.add(letter);
        return book.count;
    }

    public int tear() {
        int both = book.count + guessCount;
        book.empty();
        guessCount = 0;
        return both;
    }

    public int judge() {
        for (int i = 1; i < book.count; i++) {
            if (!isChange(book.get(i - 1), book.get(i))) {
                return i;
            }
        }
        return NONE;
    }

    public int drift(int n) {
        if (n < 1 || n > MOST_DRIFT) {
            return OUTSIDE;
        }
        if (letters.size == 0 || now.settled) {
            return NOT;
        }
        foresight.useRules(now.law, now.way == 1, stamp());
        for (int k = 0; k < n; k++) {
            if (now.draw(4) == 0) {
                sendAnyChange();
            } else {
                sendWhatPays();
            }
        }
        return now.letter;
    }

    public int seed(int v) {
        if (v < 0) {
            return OUTSIDE;
        }
        int last = now.seed;
        now.seed = v;
        return last;
    }

    public int keep(int i) {
        if (!isImage(i)) {
            return UNKNOWN;
        }
        images[i].become(now);
        kept[i] = 1;
        return 1;
    }

    public int goBack(int i) {
        if (!isImage(i)) {
            return UNKNOWN;
        }
        if (kept[i] == 0) {
            return NOT;
        }
        now.become(images[i]);
        return 1;
    }

    private static boolean isHouse(int h) {
        return h >= 0 && h < HOUSES;
    }

    private static boolean isImage(int i) {
        return i >= 0 && i < IMAGES;
    }

    private static boolean isMoves(int n) {
        return n >= 0 && n <= MOST_MOVES;
    }

    private boolean isWord(int w) {
        return w >= 0 && w < spoken.words;
    }

    private boolean isLetter(int letter) {
        return letter >= 0 && letter < letters.size;
    }

    private boolean isGuess(int g) {
        return g >= 0 && g < guessCount;
    }

    private void listChanges(int letter) {
        letters.listChanges(letter, now.law, now.way == 1, changes);
    }

    private boolean isChange(int from, int to) {
        listChanges(from);
        return changes.has(to);
    }

    /** Tells tongue, law and way apart, so that what was found under others is not taken for true. */
    private int stamp() {
        return letters.tongues * LAWS_AND_WAYS + now.law * 2 + now.way;
    }

    /** Rows only grow: a smaller tongue uses those of the larger one before it. */
    private void makeRoom(int size) {
        paths.makeRoom(size);
        foresight.makeRoom(size);
        if (size > stillOnes.letters.length) {
            stillOnes = new Row(size);
        }
    }

    private void listStill() {
        stillOnes.empty();
        for (int letter = 0; letter < letters.size; letter++) {
            if (letters.isSense(letter) && neitherWouldChange(letter)) {
                stillOnes.add(letter);
            }
        }
    }

    private boolean neitherWouldChange(int letter) {
        listChanges(letter);
        for (int h = 0; h < HOUSES; h++) {
            int own = letters.worthTo(h, letter);
            for (int k = 0; k < changes.count; k++) {
                if (letters.worthTo(h, changes.get(k)) > own) {
                    return false;
                }
            }
        }
        return true;
    }

    private boolean explains(Guess guess, int from, int to) {
        int sent = guessedWorth(guess, to);
        if (guessedWorth(guess, from) > sent) {
            return false;
        }
        listChanges(from);
        for (int k = 0; k < changes.count; k++) {
            if (guessedWorth(guess, changes.get(k)) > sent) {
                return false;
            }
        }
        return true;
    }

    private int guessedWorth(Guess guess, int letter) {
        if (!letters.isSense(letter) || !isHouse(guess.house)) {
            return 0;
        }
        return spoken.weigh(letter, guess.worths, spoken.pairWorths[guess.house]);
    }

    private void giveBoth() {
        for (int h = 0; h < HOUSES; h++) {
            now.gained[h] += letters.worthTo(h, now.letter);
        }
    }

    private void sendAnyChange() {
        listChanges(now.letter);
        if (changes.count > 0) {
            now.pass(changes.get(now.draw(changes.count)));
        }
    }

    private void sendWhatPays() {
        int next = foresight.firstSent(now.letter, now.turn, MOVES_OF_DRIFT);
        if (next == NONE) {
            giveBoth();
            now.turn = 1 - now.turn;
        } else {
            now.pass(next);
        }
    }

    /** Letters one behind the other, filled and read again and again, so that no call makes a row of its own. */
    private static final class Row {
        private final int[] letters;
        private int count;

        Row(int most) {
            letters = new int[Math.max(most, 0)];
        }

        void empty() {
            count = 0;
        }

        void add(int letter) {
            if (count < letters.length) {
                letters[count] = letter;
                count++;
            }
        }

        int get(int i) {
            return i >= 0 && i < count ? letters[i] : NONE;
        }

        int countOrGet(int i) {
            return i == NONE ? count : get(i);
        }

        boolean has(int letter) {
            for (int i = 0; i < count; i++) {
                if (letters[i] == letter) {
                    return true;
                }
            }
            return false;
        }
    }

    /** What a text tells. The class holds two, so that a text with a fault leaves the tongue as it was. */
    private static final class Tongue {
        private int length;
        private int words;
        private int frames;
        private int pairs;
        private final int[] kinds = new int[MOST_WORDS];
        private final int[][] worths = new int[HOUSES][MOST_WORDS];
        private final int[] framed = new int[KINDS * KINDS * KINDS * KINDS];
        private final int[] paired = new int[MOST_WORDS * MOST_WORDS];
        private final int[][] pairWorths = new int[HOUSES][MOST_WORDS * MOST_WORDS];
        private final int[] scales = new int[MOST_PLACES + 1];

        void clear() {
            length = 0;
            words = 0;
            frames = 0;
            pairs = 0;
            Arrays.fill(framed, 0);
            Arrays.fill(paired, 0);
            for (int h = 0; h < HOUSES; h++) {
                Arrays.fill(pairWorths[h], 0);
            }
        }

        void addWord(int kind, int a, int b) {
            if (words < MOST_WORDS) {
                kinds[words] = kind;
                worths[0][words] = a;
                worths[1][words] = b;
                words++;
            }
        }

        void addFrame(int code) {
            if (code >= 0 && code < framed.length) {
                framed[code] = 1;
                frames++;
            }
        }

        void addPair(int w, int x, int a, int b) {
            int spot = spotOf(w, x);
            paired[spot] = 1;
            pairWorths[0][spot] = a;
            pairWorths[1][spot] = b;
            pairs++;
        }

        boolean hasPair(int w, int x) {
            return paired[spotOf(w, x)] == 1;
        }

        /** Masked, so that no pair of numbers leads out of the rows. */
        private static int spotOf(int w, int x) {
            return (w & MOST_WORDS - 1) * MOST_WORDS + (x & MOST_WORDS - 1);
        }

        int countLetters() {
            int scale = 1;
            for (int p = 0; p <= MOST_PLACES; p++) {
                scales[p] = scale;
                scale *= words;
            }
            return words > 0 && length <= MOST_PLACES ? scales[length] : 0;
        }

        int wordAt(int letter, int place) {
            if (words <= 0 || place < 0 || place >= length || scales[place] <= 0) {
                return 0;
            }
            return letter / scales[place] % words;
        }

        boolean isFramed(int letter) {
            int code = 0;
            for (int p = length - 1; p >= 0; p--) {
                code = code * KINDS + kinds[wordAt(letter, p)];
            }
            return framed[code & framed.length - 1] == 1;
        }

        int weigh(int letter, int[] wordWorths, int[] ofPairs) {
            int previous = wordAt(letter, 0);
            int sum = wordWorths[previous];
            for (int p = 1; p < length; p++) {
                int w = wordAt(letter, p);
                sum += kinds[previous] == TURN ? -wordWorths[w] : wordWorths[w];
                sum += ofPairs[spotOf(previous, w)];
                previous = w;
            }
            return sum;
        }

        int wordsApart(int one, int other) {
            int apart = 0;
            for (int p = 0; p < length; p++) {
                if (wordAt(one, p) != wordAt(other, p)) {
                    apart++;
                }
            }
            return apart;
        }
    }

    /** Reads the text; of all faults it keeps the first, so reading may go on to the statement's end. */
    private static final class Reader {
        private static final int CANNOT_STAND = 1;
        private static final int WRONG_NUMBER = 2;
        private static final int TOO_MANY = 3;
        private static final int PAIR_AGAIN = 4;
        private static final int MOST_FIGURES = 3;
        private static final int MOST_TOLD = 99;
        private static final int LESS = 50;

        private final byte[] text = new byte[MOST_BYTES];
        private int length;
        private int place;
        private int start;
        private int faultNumber;
        private int faultByte = NONE;

        int take(int n, long bytes) {
            if (length + n > MOST_BYTES) {
                return FULL;
            }
            for (int k = n - 1; k >= 0; k--) {
                text[length] = (byte) (bytes >>> BYTES_OF_LONG * k);
                length++;
            }
            return length;
        }

        /** Answers the number of the first fault, 0 for none. */
        int read(Tongue into) {
            place = 0;
            faultNumber = 0;
            faultByte = NONE;
            into.clear();
            if (isMore()) {
                readHead(into);
            }
            for (int k = 0; k < MOST_BYTES && faultNumber == 0 && isMore(); k++) {
                readStatement(into);
            }
            length = 0;
            return faultNumber;
        }

        private void readHead(Tongue into) {
            nextWord();
            if (!spells("letter")) {
                fail(CANNOT_STAND);
            }
            into.length = nextNumber(FEWEST_PLACES, MOST_PLACES);
            nextSign(';');
        }

        private void readStatement(Tongue into) {
            nextWord();
            if (spells("word")) {
                readWord(into);
            } else if (spells("frame")) {
                readFrame(into);
            } else if (spells("pair")) {
                readPair(into);
            } else {
                fail(spells("letter") ? TOO_MANY : CANNOT_STAND);
            }
        }

        private void readWord(Tongue into) {
            if (into.words >= MOST_WORDS) {
                fail(TOO_MANY);
            }
            int kind = nextKind();
            int a = nextNumber(0, MOST_TOLD) - LESS;
            int b = nextNumber(0, MOST_TOLD) - LESS;
            nextSign(';');
            if (faultNumber == 0) {
                into.addWord(kind, a, b);
            }
        }

        private void readFrame(Tongue into) {
            if (into.frames >= MOST_FRAMES) {
                fail(TOO_MANY);
            }
            int code = 0;
            int scale = 1;
            for (int k = 1; k <= into.length; k++) {
                code += nextKind() * scale;
                scale *= KINDS;
                nextSign(k < into.length ? ',' : ';');
            }
            if (faultNumber == 0) {
                into.addFrame(code);
            }
        }

        private void readPair(Tongue into) {
            if (into.pairs >= MOST_PAIRS) {
                fail(TOO_MANY);
            }
            int w = nextNumber(0, into.words - 1);
            int x = nextNumber(0, into.words - 1);
            if (faultNumber == 0 && into.hasPair(w, x)) {
                fail(PAIR_AGAIN);
            }
            int a = nextNumber(0, MOST_TOLD) - LESS;
            int b = nextNumber(0, MOST_TOLD) - LESS;
            nextSign(';');
            if (faultNumber == 0) {
                into.addPair(w, x, a, b);
            }
        }

        private int nextKind() {
            nextWord();
            if (spells("name")) {
                return 0;
            }
            if (spells("deed")) {
                return 1;
            }
            if (spells("link")) {
                return 2;
            }
            if (spells("turn")) {
                return TURN;
            }
            fail(CANNOT_STAND);
            return 0;
        }

        private int nextNumber(int least, int most) {
            skipBlanks();
            start = place;
            int value = 0;
            while (place < length && text[place] >= '0' && text[place] <= '9') {
                if (place - start < MOST_FIGURES) {
                    value = value * 10 + text[place] - '0';
                }
                place++;
            }
            if (place == start) {
                fail(CANNOT_STAND);
            } else if (place - start > MOST_FIGURES || value < least || value > most) {
                fail(WRONG_NUMBER);
            }
            return value;
        }

        private void nextWord() {
            skipBlanks();
            start = place;
            while (place < length && text[place] >= 'a' && text[place] <= 'z') {
                place++;
            }
        }

        private void nextSign(char sign) {
            skipBlanks();
            start = place;
            if (place < length && text[place] == sign) {
                place++;
            } else {
                fail(CANNOT_STAND);
            }
        }

        private boolean spells(String name) {
            if (place - start != name.length()) {
                return false;
            }
            for (int k = 0; k < name.length(); k++) {
                if (text[start + k] != name.charAt(k)) {
                    return false;
                }
            }
            return true;
        }

        private boolean isMore() {
            skipBlanks();
            return place < length;
        }

        private void skipBlanks() {
            while (place < length && text[place] == ' ') {
                place++;
            }
        }

        private void fail(int number) {
            if (faultNumber == 0) {
                faultNumber = number;
                faultByte = start;
            }
        }
    }

    /** All letters of a tongue, weighed once, for most calls ask the same letters again and again. */
    private static final class Letters {
        private Tongue tongue;
        private int tongues;
        private int size;
        private int standing;
        private byte[] sense = new byte[0];
        private int[] worthToOne = new int[0];
        private int[] worthToOther = new int[0];

        Letters(Tongue told) {
            tongue = told;
        }

        void lay(Tongue told) {
            tongue = told;
            tongues++;
            size = told.countLetters();
            standing = 0;
            makeRoom();
            for (int letter = 0; letter < size; letter++) {
                boolean framed = told.isFramed(letter);
                sense[letter] = (byte) (framed ? 1 : 0);
                worthToOne[letter] = framed ? told.weigh(letter, told.worths[0], told.pairWorths[0]) : 0;
                worthToOther[letter] = framed ? told.weigh(letter, told.worths[1], told.pairWorths[1]) : 0;
                standing += sense[letter];
            }
        }

        private void makeRoom() {
            if (size > sense.length) {
                sense = new byte[size];
                worthToOne = new int[size];
                worthToOther = new int[size];
            }
        }

        boolean isSense(int letter) {
            return letter >= 0 && letter < size && sense[letter] == 1;
        }

        int worthTo(int house, int letter) {
            if (letter < 0 || letter >= size) {
                return 0;
            }
            return house == 0 ? worthToOne[letter] : worthToOther[letter];
        }

        void listChanges(int letter, int law, boolean nonsense, Row into) {
            into.empty();
            if (law != TURN_ABOUT) {
                listOtherWords(letter, nonsense, into);
            }
            if (law != ONE_WORD) {
                listTurnsAbout(letter, nonsense, into);
            }
        }

        private void listOtherWords(int letter, boolean nonsense, Row into) {
            for (int p = 0; p < tongue.length; p++) {
                int scale = tongue.scales[p];
                int own = tongue.wordAt(letter, p);
                for (int w = 0; w < tongue.words; w++) {
                    int changed = letter + (w - own) * scale;
                    if (w != own && (nonsense || isSense(changed))) {
                        into.add(changed);
                    }
                }
            }
        }

        /** A turn about changes two places of its own, so none of these can be in the row already. */
        private void listTurnsAbout(int letter, boolean nonsense, Row into) {
            for (int p = 0; p + 1 < tongue.length; p++) {
                int less = tongue.wordAt(letter, p + 1) - tongue.wordAt(letter, p);
                int changed = letter + less * (tongue.scales[p] - tongue.scales[p + 1]);
                if (less != 0 && (nonsense || isSense(changed))) {
                    into.add(changed);
                }
            }
        }
    }

    /** The fewest changes from one letter to another, found ring by ring. */
    private static final class Paths {
        private final Letters letters;
        private int[] steps = new int[0];
        private Row queue = new Row(0);
        private final Row changes = new Row(MOST_CHANGES);

        Paths(Letters all) {
            letters = all;
        }

        void makeRoom(int size) {
            if (size > steps.length) {
                steps = new int[size];
                queue = new Row(size);
            }
        }

        int shortest(int law, int from, int to, boolean any) {
            if (from == to) {
                return 0;
            }
            Arrays.fill(steps, NONE);
            queue.empty();
            reach(from, 0);
            for (int k = 0; k < letters.size && k < queue.count; k++) {
                int last = queue.get(k);
                int next = steps[last] + 1;
                letters.listChanges(last, law, true, changes);
                if (changes.has(to)) {
                    return next;
                }
                for (int i = 0; i < changes.count; i++) {
                    if (any || letters.isSense(changes.get(i))) {
                        reach(changes.get(i), next);
                    }
                }
            }
            return NONE;
        }

        private void reach(int letter, int count) {
            if (letter >= 0 && letter < steps.length && steps[letter] == NONE) {
                steps[letter] = count;
                queue.add(letter);
            }
        }
    }

    /**
     * Both looking to themselves from the last move back. What was found is kept under the stamp
     * of tongue, law and way, since most states are reached by many ways.
     */
    private static final class Foresight {
        private static final int STAMP_SHIFT = 16;
        private static final int HALF_MASK = 65535;

        private final Letters letters;
        private int[] memory = new int[0];
        private final Row[] rows = new Row[MOST_MOVES + 1];
        private int law;
        private boolean nonsense;
        private int stamp;

        Foresight(Letters all) {
            letters = all;
            for (int n = 0; n <= MOST_MOVES; n++) {
                rows[n] = new Row(MOST_CHANGES);
            }
        }

        void makeRoom(int size) {
            if (size * HOUSES * MOST_MOVES > memory.length) {
                memory = new int[size * HOUSES * MOST_MOVES];
            }
        }

        /** The stamp is cut to what the memory can hold, so that looking ends soon however many tongues there were. */
        void useRules(int lawNow, boolean nonsenseToo, int stampNow) {
            law = lawNow;
            nonsense = nonsenseToo;
            stamp = stampNow & HALF_MASK;
        }

        /** The letter in the end, and MOST_LETTERS for each one that is sent. */
        private int look(int letter, int house, int moves) {
            if (moves <= 0 || moves > MOST_MOVES) {
                return letter;
            }
            int spot = ((moves - 1) * HOUSES + house) * letters.size + letter;
            if (spot < 0 || spot >= memory.length) {
                return letter;
            }
            if (memory[spot] >>> STAMP_SHIFT == stamp) {
                return memory[spot] & HALF_MASK;
            }
            int best = letter;
            int most = letters.worthTo(house, letter);
            Row row = rows[moves];
            letters.listChanges(letter, law, nonsense, row);
            for (int i = 0; i < row.count; i++) {
                int end = look(row.get(i), 1 - house, moves - 1);
                int gain = letters.worthTo(house, end % MOST_LETTERS);
                if (gain > most) {
                    most = gain;
                    best = end + MOST_LETTERS;
                }
            }
            memory[spot] = stamp << STAMP_SHIFT | best;
            return best;
        }

        /** The first change that ends as well as the best one is the one that was chosen. */
        int firstSent(int letter, int house, int moves) {
            int best = look(letter, house, moves);
            if (moves < 0 || moves > MOST_MOVES || best < MOST_LETTERS) {
                return NONE;
            }
            int most = letters.worthTo(house, best % MOST_LETTERS);
            Row row = rows[moves];
            letters.listChanges(letter, law, nonsense, row);
            for (int i = 0; i < row.count; i++) {
                int end = look(row.get(i), 1 - house, moves - 1);
                if (letters.worthTo(house, end % MOST_LETTERS) == most) {
                    return row.get(i);
                }
            }
            return NONE;
        }
    }

    /** All that an image keeps: the correspondence, what was had, the log, law, way and seed. */
    private static final class Course {
        private static final int ENTRY = 3;
        private static final int FACTOR = 1103515245;
        private static final int MORE = 12345;
        private static final int DRAW_SHARE = 65536;

        private int letter;
        private int turn;
        private boolean settled;
        private final int[] gained = new int[HOUSES];
        private final int[] entries = new int[MOST_SENT * ENTRY];
        private int sent;
        private int law;
        private int way;
        private int seed;

        /** Law, way and seed outlive a tongue. */
        void restart() {
            letter = 0;
            turn = 0;
            settled = false;
            Arrays.fill(gained, 0);
            sent = 0;
        }

        void become(Course other) {
            letter = other.letter;
            turn = other.turn;
            settled = other.settled;
            System.arraycopy(other.gained, 0, gained, 0, HOUSES);
            System.arraycopy(other.entries, 0, entries, 0, MOST_SENT * ENTRY);
            sent = other.sent;
            law = other.law;
            way = other.way;
            seed = other.seed;
        }

        void pass(int next) {
            if (sent < MOST_SENT) {
                entries[sent * ENTRY] = turn;
                entries[sent * ENTRY + 1] = letter;
                entries[sent * ENTRY + 2] = next;
                sent++;
            }
            letter = next;
            turn = 1 - turn;
        }

        int entry(int i, int what) {
            if (i < 0 || i >= sent || what < 0 || what >= ENTRY) {
                return NONE;
            }
            return entries[i * ENTRY + what];
        }

        int draw(int n) {
            seed = seed * FACTOR + MORE & MOST_SEED;
            return n > 0 ? seed / DRAW_SHARE % n : 0;
        }
    }

    /** What the words may be worth to a house. */
    private static final class Guess {
        private int house;
        private final int[] worths = new int[MOST_WORDS];

        void restart(int h) {
            house = h;
            Arrays.fill(worths, 0);
        }
    }
}
