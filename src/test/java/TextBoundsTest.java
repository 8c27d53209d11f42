import java.util.List;

/** The bounds of THE TEXT and of THE TONGUE, and each FAULT with the byte at which it is told (part 1 of the terms). */
public final class TextBoundsTest {
    private static final int NONE = -1;
    private static final int OUTSIDE = -1000000002;
    private static final int FULL = -1000000004;
    private static final String[] KINDS = {"name", "deed", "link", "turn"};
    private static final String WORD = "word name 1 1;";

    private static final Dues DUES = new Dues();

    public static void main(String[] args) {
        bytesOfTheText();
        orderOfBytes();
        faultsAtTheEndOfALongText();
        boundsOfNumbers();
        numbersAreKept();
        wordsOfThePairsAreTold();
        kindsByNumber();
        everyLetterOfAWord();
        kindsOfAFrame();
        eightWords();
        eightFrames();
        twelvePairs();
        letterOnce();
        letterFirst();
        pairOnce();
        firstFaultOfSeveral();
        leastFaultAtOneByte();
        everyPrefix();
        everyByte();
        blanks();
        emptyText();
        faultLeavesAll();
        tongueBeginsAnew();
        faultOfTheLatest();
        DUES.close("TextBoundsTest");
    }

    private static void due(String what, long got, long want) {
        DUES.due(what, got, want);
    }

    private static void fine(String text) {
        OneWordLetters x = new OneWordLetters();
        Dues.feedText(x, text);
        due("bytes of " + text, x.told(4), text.length());
        int answer = x.tongue();
        DUES.holds("no fault in " + text + " but " + answer, answer >= 0);
        due("fault() of " + text, x.fault(), NONE);
        due("bytes behind " + text, x.told(4), 0);
    }

    private static void fault(String text, int number, int place) {
        OneWordLetters x = new OneWordLetters();
        Dues.feedText(x, text);
        due("bytes of " + text, x.told(4), text.length());
        due("tongue() of " + text, x.tongue(), -10 - number);
        due("fault() of " + text, x.fault(), place);
        due("bytes behind " + text, x.told(4), 0);
        due("L behind " + text, x.told(0), 0);
        due("WORDS behind " + text, x.told(1), 0);
    }

    /** The fault stands at the byte that comes first behind the text's beginning. */
    private static void faultBehind(String beginning, String rest, int number) {
        fault(beginning + rest, number, beginning.length());
    }

    private static OneWordLetters holding(String text) {
        OneWordLetters x = new OneWordLetters();
        Dues.feedText(x, text);
        due("bytes held", x.told(4), text.length());
        return x;
    }

    /** Whatever n brings it to 500 is taken, whatever n brings it beyond is FULL, and nothing of that comes in. */
    private static void bytesOfTheText() {
        String text = States.SMALL + " ".repeat(500);
        for (int n = 1; n <= 8; n++) {
            OneWordLetters x = holding(text.substring(0, 500 - n));
            due("2 up to 500 by " + n, x.feed(n, 0x2020_2020_2020_2020L), 500);
            due("2 behind 500", x.feed(1, ' '), FULL);
            due("2 bytes", x.told(4), 500);
            due("3 500 bytes", x.tongue(), 16);
            due("2 empty again", x.feed(n, 0), n);
            OneWordLetters y = holding(text.substring(0, 501 - n));
            due("2 beyond 500 by " + n, y.feed(n, -1L), FULL);
            due("2 nothing came", y.told(4), 501 - n);
            for (int m = 1; m < n; m++) {
                due("2 fewer bytes still come", y.feed(1, ' '), 501 - n + m);
            }
            due("2 now it is full", y.feed(1, -1L), FULL);
            due("2 nothing of the refused came", y.tongue(), 16);
        }
        OneWordLetters z = new OneWordLetters();
        for (int k = 1; k <= 500; k++) {
            due("2 byte by byte", z.feed(1, k <= States.SMALL.length() ? States.SMALL.charAt(k - 1) : ' '), k);
        }
        due("2 the 501st", z.feed(1, ' '), FULL);
        due("2 read", z.tongue(), 16);
    }

    /** The highest of the n bytes first; what stands above them in the long does not come. */
    private static void orderOfBytes() {
        String text = "letter 2;word name 1 1;frame name,name;" + " ".repeat(8);
        for (int n = 1; n <= 8; n++) {
            OneWordLetters x = new OneWordLetters();
            byte[] bytes = text.getBytes(java.nio.charset.StandardCharsets.ISO_8859_1);
            for (int from = 0; from + n <= bytes.length; from += n) {
                long high = n < 8 ? 0xabcd_efab_cdef_abcdL << 8 * n : 0;
                due("2 feed by " + n, x.feed(n, Dues.pack(bytes, from, n) | high), from + n);
            }
            due("2 order by " + n, x.tongue(), 1);
            due("2 order by " + n, x.told(13), 1);
        }
        OneWordLetters y = new OneWordLetters();
        due("2 eight bytes below 0", y.feed(8, -1L), 8);
        due("2 byte 255 cannot stand", y.tongue(), -11);
        due("4 at the first", y.fault(), 0);
        due("2 refused 0", y.feed(0, -1L), OUTSIDE);
        due("2 refused 9", y.feed(9, -1L), OUTSIDE);
    }

    private static void faultsAtTheEndOfALongText() {
        String begun = "letter 2;word name 1 1;";
        String blank = " ".repeat(500);
        fine((begun + blank).substring(0, 500));
        fault((begun + blank).substring(0, 499) + "x", 1, 499);
        fault((begun + blank).substring(0, 494) + "letter", 3, 494);
        fault((begun + blank).substring(0, 491) + "word name", 1, 500);
        fault((begun + "word name 1 1" + blank).substring(0, 500), 1, 500);
        fault((begun + "pair 0 " + blank).substring(0, 500), 1, 500);
        fault((begun + "pair 0 " + blank).substring(0, 499) + "1", 2, 499);
        fault((begun + "pair 0 0 1 1;pair 0 " + blank).substring(0, 499) + "0", 4, 499);
        fine((blank + "letter 2;").substring(9));
        fault((blank + "letter 2").substring(8), 1, 500);
    }

    private static void boundsOfNumbers() {
        String three = "letter 2;" + WORD.repeat(3);
        String eight = "letter 2;" + WORD.repeat(8);
        number("letter ", ";", 2, 4);
        number("letter 3;word turn ", " 99;", 0, 99);
        number("letter 3;word turn 99 ", ";", 0, 99);
        number(three + "pair ", " 2 0 99;", 0, 2);
        number(three + "pair 2 ", " 0 99;", 0, 2);
        number(eight + "pair ", " 7 0 99;", 0, 7);
        number(eight + "pair 7 ", " 0 99;", 0, 7);
        number(three + "pair 2 0 ", " 99;", 0, 99);
        number(three + "pair 2 0 99 ", ";", 0, 99);
    }

    /** One to three figures; the least and the most, and those next to them. */
    private static void number(String before, String behind, int least, int most) {
        fine(before + least + behind);
        fine(before + most + behind);
        fine(before + "00" + least + behind);
        fine(before + "0" + most % 10 + behind);
        faultBehind(before, (most + 1) + behind, 2);
        faultBehind(before, (most + 256) + behind, 2);
        faultBehind(before, "999" + behind, 2);
        faultBehind(before, "000" + least + behind, 2);
        faultBehind(before, "1000" + behind, 2);
        faultBehind(before, "4294967298" + behind, 2);
        faultBehind(before, "0".repeat(40) + least + behind, 2);
        for (int v = 0; v < least; v++) {
            faultBehind(before, v + behind, 2);
        }
        faultBehind(before, "-1" + behind, 1);
        faultBehind(before, "+" + most + behind, 1);
        faultBehind(before, "x" + behind, 1);
        faultBehind(before, ";", 1);
        faultBehind(before, ",", 1);
        faultBehind(before, "", 1);
        faultBehind(before + "   ", "", 1);
    }

    private static void numbersAreKept() {
        for (int v = 0; v <= 99; v++) {
            OneWordLetters x = Dues.speaking("letter 2;word name " + v + " " + (99 - v) + ";word deed 50 50;frame deed,deed;"
                + "frame deed,name;pair 1 1 " + (99 - v) + " " + v + ";");
            due("6 told " + v, x.word(0, 1), v - 50);
            due("6 told " + (99 - v), x.word(0, 2), 49 - v);
            due("9 pair of " + (99 - v), x.worth(0, 3), 49 - v);
            due("9 pair of " + v, x.worth(1, 3), v - 50);
            due("9 word of " + v, x.worth(0, 1), v - 50);
        }
        for (int length = 2; length <= 4; length++) {
            due("5 L", Dues.speaking("letter " + length + ";").told(0), length);
            due("3 letters", Dues.speaking("letter " + length + ";" + WORD + WORD).told(1), 2);
        }
    }

    private static void wordsOfThePairsAreTold() {
        faultBehind("letter 2;pair ", "0 0 1 1;", 2);
        for (int words = 1; words <= 8; words++) {
            String told = "letter 2;" + WORD.repeat(words);
            fine(told + "pair " + (words - 1) + " 0 1 1;");
            fine(told + "pair 0 " + (words - 1) + " 1 1;");
            faultBehind(told + "pair ", words + " 0 1 1;", 2);
            faultBehind(told + "pair 0 ", words + " 1 1;", 2);
            if (words < 8) {
                faultBehind(told + "pair 0 ", words + " 1 1;" + WORD, 2);
                fine(told + "pair 0 0 1 1;" + WORD + "pair 0 " + words + " 1 1;");
            }
        }
    }

    private static void kindsByNumber() {
        for (int kind = 0; kind < 4; kind++) {
            OneWordLetters x = Dues.speaking("letter 2;word " + KINDS[kind] + " 1 1;");
            due("6 " + KINDS[kind], x.word(0, 0), kind);
            String cut = KINDS[kind].substring(0, 3);
            faultBehind("letter 2;word ", cut + " 1 1;", 1);
            faultBehind("letter 2;word ", KINDS[kind] + "s 1 1;", 1);
            faultBehind("letter 2;frame name,", cut + ";", 1);
            faultBehind("letter 2;frame ", KINDS[kind] + "name,name;", 1);
        }
        faultBehind("letter 2;word ", "Name 1 1;", 1);
        faultBehind("letter 2;word ", "", 1);
        faultBehind("letter 2;word ", ";", 1);
    }

    /** A word with one letter another, one more or one less is a word that cannot stand: at its first letter. */
    private static void everyLetterOfAWord() {
        String told = "letter 2;" + WORD;
        String[][] words = {{"", "letter", " 2;"}, {told, "word", " name 1 1;"}, {told, "frame", " name,deed;"}, {told, "pair", " 0 0 1 1;"},
            {told + "word ", "name", " 1 1;"}, {told + "word ", "deed", " 1 1;"}, {told + "word ", "link", " 1 1;"},
            {told + "word ", "turn", " 1 1;"}, {told + "frame ", "turn", ",name;"}, {told + "frame turn,", "link", ";"}};
        for (String[] one : words) {
            String word = one[1];
            fine(one[0] + word + one[2]);
            for (int k = 0; k < word.length(); k++) {
                for (String other : new String[] {"b", "z", "", word.charAt(k) + "a", word.charAt(k) + "z"}) {
                    faultBehind(one[0], word.substring(0, k) + other + word.substring(k + 1) + one[2], 1);
                }
                // What stands ahead of a sign that is no letter is no word, so the fault is at its first letter too.
                faultBehind(one[0], word.substring(0, k) + "A" + word.substring(k) + one[2], 1);
            }
        }
    }

    /** A kind too few or too many: where ',' or ';' would stand. */
    private static void kindsOfAFrame() {
        for (int length = 2; length <= 4; length++) {
            String head = "letter " + length + ";frame name";
            for (int kinds = 1; kinds <= 6; kinds++) {
                String frame = head + ",turn".repeat(kinds - 1);
                if (kinds < length) {
                    faultBehind(frame, ";", 1);
                    faultBehind(frame + " ", ";", 1);
                    faultBehind(frame, "", 1);
                    faultBehind(frame + ",", ";", 1);
                } else if (kinds == length) {
                    fine(frame + ";");
                    faultBehind(frame, ",;", 1);
                    faultBehind(frame, "", 1);
                    faultBehind(frame + " ", "turn;", 1);
                } else {
                    fault(frame + ";", 1, (head + ",turn".repeat(length - 1)).length());
                }
            }
            faultBehind("letter " + length + ";frame ", ";", 1);
            faultBehind("letter " + length + ";frame ", ",name;", 1);
        }
    }

    private static void eightWords() {
        String eight = "letter 2;" + WORD.repeat(8);
        fine(eight);
        due("5 eight words", Dues.speaking(eight).told(1), 8);
        faultBehind(eight, WORD, 3);
        faultBehind(eight + "  ", WORD, 3);
        faultBehind(eight, "word", 3);
        faultBehind(eight, "word 7", 3);
        faultBehind(eight + "frame name,name;", WORD, 3);
        faultBehind(eight, "words", 1);
        fine(eight + "frame name,name;pair 7 7 1 1;");
    }

    private static void eightFrames() {
        for (String frame : new String[] {"frame name,deed;", "frame deed,name;"}) {
            String eight = "letter 2;" + "frame name,deed;".repeat(8);
            fine(eight);
            due("5 eight frames, though alike", Dues.speaking(eight).told(2), 8);
            faultBehind(eight, frame, 3);
            faultBehind(eight + WORD, frame, 3);
            faultBehind(eight, "frame", 3);
            faultBehind(eight, "frame name", 3);
            faultBehind(eight, "frames", 1);
            fine(eight + WORD.repeat(8));
        }
    }

    private static void twelvePairs() {
        StringBuilder twelve = new StringBuilder("letter 2;" + WORD.repeat(4));
        for (int k = 0; k < 12; k++) {
            twelve.append("pair ").append(k / 4).append(' ').append(k % 4).append(" 1 1;");
        }
        fine(twelve.toString());
        due("5 twelve pairs", Dues.speaking(twelve.toString()).told(3), 12);
        faultBehind(twelve.toString(), "pair 3 3 1 1;", 3);
        faultBehind(twelve.toString(), "pair 0 0 1 1;", 3);
        faultBehind(twelve.toString(), "pair 9 9 1 1;", 3);
        faultBehind(twelve.toString(), "pair", 3);
        faultBehind(twelve + " ", "pair ;", 3);
        faultBehind(twelve.toString(), "pairs", 1);
        fine(twelve + WORD + "frame name,name;");
    }

    private static void letterOnce() {
        faultBehind("letter 2;", "letter 2;", 3);
        faultBehind("letter 2;", "letter", 3);
        faultBehind("letter 2;", "letter 5;", 3);
        faultBehind("letter 2;" + WORD + " ", "letter 2;", 3);
        faultBehind("letter 2;frame name,deed;", "letter 3;", 3);
        faultBehind("letter 2;" + WORD + "pair 0 0 1 1;", "letter 2;", 3);
        faultBehind("letter 2;", "letters", 1);
        faultBehind("letter 2;", "lette", 1);
    }

    private static void letterFirst() {
        faultBehind("", WORD, 1);
        faultBehind("", "frame name,deed;", 1);
        faultBehind("", "pair 0 0 1 1;", 1);
        faultBehind("  ", "word", 1);
        faultBehind("", "name", 1);
        faultBehind("", "lette 2;", 1);
        faultBehind("", "letterx 2;", 1);
        faultBehind("", "Letter 2;", 1);
        faultBehind("", ";", 1);
        faultBehind("   ", ";", 1);
        faultBehind("", "2;", 1);
        faultBehind("", WORD + "letter 2;", 1);
    }

    /** W X once; X W is another one. */
    private static void pairOnce() {
        String two = "letter 2;" + WORD + WORD;
        fine(two + "pair 0 1 1 1;pair 1 0 1 1;pair 0 0 1 1;pair 1 1 1 1;");
        faultBehind(two + "pair 0 1 1 1;pair 0 ", "1 1 1;", 4);
        faultBehind(two + "pair 0 1 1 1;pair 0 ", "1 2 2;", 4);
        faultBehind(two + "pair 1 1 1 1;pair 1 ", "1 1 1;", 4);
        faultBehind(two + "pair 0 1 1 1;pair 1 0 1 1;pair 00  ", "001 1 1;", 4);
        faultBehind(two + "pair 0 1 1 1;" + WORD + "frame name,name;pair 0 ", "1", 4);
        faultBehind(two + "pair 0 1 1 1;pair 0 ", "1 100 100", 4);
    }

    private static void firstFaultOfSeveral() {
        faultBehind("letter ", "5;x", 2);
        faultBehind("letter 2", "x;letter 2;", 1);
        faultBehind("letter 2;word name ", "100 100;", 2);
        faultBehind("letter 2;word ", "nam 100 1;", 1);
        faultBehind("letter 2;" + WORD + "pair ", "1 1 1 1;", 2);
        faultBehind("letter 2;" + WORD + "pair ", "1 x;", 2);
        faultBehind("letter 2;" + WORD + "pair 0 0 1 1;pair 0 ", "0;letter", 4);
        faultBehind("letter 2;" + WORD.repeat(8), "word x 100;", 3);
        faultBehind("letter 2;", "letter 9;", 3);
    }

    /** Where one byte has several, the least is told. */
    private static void leastFaultAtOneByte() {
        faultBehind("letter 2 ", "3456;", 1);
        faultBehind("letter 2;", "3456;", 1);
        faultBehind("", "3456;", 1);
        faultBehind("letter 2;word ", "3456;", 1);
        faultBehind("letter 2;word name 1 1 ", "3456;", 1);
        faultBehind("letter 2;frame ", "3456;", 1);
        faultBehind("letter 2;frame name", "3456;", 1);
        faultBehind("letter ", "letter 2;", 1);
        faultBehind("letter 2;word ", "letter 1 1;", 1);
        faultBehind("letter 2;frame ", "letter;", 1);
        faultBehind("letter 2;" + WORD.repeat(8) + "pair 0 0 1 1 ", "word;", 1);
        String again = "letter 2;" + WORD + "pair 0 0 1 1;pair 0 ";
        faultBehind(again, "0000 1 1;", 2);
        faultBehind(again, "1 1 1;", 2);
        faultBehind(again, "000 1 1;", 4);
    }

    /** A text that is cut off: within a word at its first letter, else at the end; behind ';' it stands. */
    private static void everyPrefix() {
        for (String text : new String[] {States.SMALL, " letter  4 ; word link 007 099 ;frame name , deed,link ,turn; pair 0 0 0 0 ; "}) {
            for (int k = 0; k <= text.length(); k++) {
                String cut = text.substring(0, k);
                String told = cut.trim();
                if (told.isEmpty() || told.endsWith(";")) {
                    fine(cut);
                } else if (k < text.length() && isSmall(text.charAt(k)) && isSmall(cut.charAt(k - 1))) {
                    int start = k;
                    while (start > 0 && isSmall(cut.charAt(start - 1))) {
                        start--;
                    }
                    fault(cut, 1, start);
                } else {
                    fault(cut, 1, k);
                }
            }
        }
    }

    private static boolean isSmall(char c) {
        return c >= 'a' && c <= 'z';
    }

    /** Of all bytes a blank alone may stand between two that are whole. */
    private static void everyByte() {
        for (int b = 0; b < 256; b++) {
            String sign = String.valueOf((char) b);
            if (b == ' ') {
                fine("letter 2;" + sign + WORD);
                fine(sign + "letter 2;");
                fine("letter 2;" + sign);
                continue;
            }
            faultBehind("letter 2;", sign + WORD, 1);
            faultBehind("", sign + "letter 2;", 1);
            faultBehind("letter 2;", sign, 1);
            if (b != ';') {
                faultBehind("letter 2;word name 1 1 ", sign + ";", 1);
            }
            if (b < '0' || b > '9') {
                faultBehind("letter 2;word name ", sign + "1 1;", 1);
            }
            if (!isSmall((char) b)) {
                faultBehind("letter 2;frame ", sign + "name,deed;", 1);
            }
            if (b != ',') {
                faultBehind("letter 2;frame name ", sign + "deed;", 1);
            }
        }
    }

    private static void blanks() {
        String[] tokens = {"letter", "2", ";", "word", "name", "60", "40", ";", "frame", "name", ",", "name", ";", "pair", "0", "0", "1", "1", ";"};
        for (int many = 1; many <= 9; many++) {
            String gap = " ".repeat(many);
            fine(gap + String.join(gap, tokens) + gap);
        }
        fine("letter2;word name60 40;frame name,name;pair0 0 1 1;");
        faultBehind("letter 2;", "wordname 60 40;", 1);
        faultBehind("letter 2;", "framename,name;", 1);
        faultBehind("letter 2;word name ", "6040;", 2);
        faultBehind("letter 2;word name ", "604;", 2);
        faultBehind("letter 2;word name 60", ";", 1);
        faultBehind("", "let ter 2;", 1);
        faultBehind("letter 2;word ", "na me 1 1;", 1);
        faultBehind("letter 2;word name 1 0 ", "1;", 1);
        faultBehind("letter 2;" + WORD + "pair 0 0 1 1 ", "1;", 1);
    }

    private static void emptyText() {
        OneWordLetters x = new OneWordLetters();
        for (int k = 0; k < 3; k++) {
            due("3 empty text", x.tongue(), 0);
            due("4 no fault", x.fault(), NONE);
            due("5 L 0", x.told(0), 0);
            due("5 no words", x.told(1), 0);
        }
        OneWordLetters y = new OneWordLetters();
        States.busy(y);
        due("3 empty text", y.tongue(), 0);
        due("4 no fault", y.fault(), NONE);
        OneWordLetters z = new OneWordLetters();
        z.seed(12345);
        DUES.same("3 an empty text behind a tongue is like no tongue", Probe.withFault(y), Probe.withFault(z));
        OneWordLetters b = Dues.speaking("   ");
        due("3 blanks alone: no fault", b.fault(), NONE);
        due("3 blanks alone: L 0", b.told(0), 0);
    }

    private static void faultLeavesAll() {
        String other = "letter 3;word turn 0 99;word turn 1 2;frame turn,turn,turn;pair 0 0 99 99;pair 1 0 99 99;";
        String[] rest = {"x", "pair 0 2 1 1;", "letter 3;", "pair 0 0 1 1;"};
        int[] place = {other.length(), other.length() + 7, other.length(), other.length() + 7};
        for (States.State state : new States.State[] {States::fresh, States::wordless, States::busy}) {
            for (int k = 0; k < 4; k++) {
                OneWordLetters x = States.in(state);
                Dues.feedText(x, other + rest[k]);
                due("3 fault " + (k + 1), x.tongue(), -11 - k);
                due("4 fault " + (k + 1), x.fault(), place[k]);
                DUES.same("3 fault " + (k + 1) + " changed something", Probe.of(x), Probe.of(States.in(state)));
            }
        }
    }

    /** Behind a tongue all is as with a new object, but LAW, the way and THE SEED stay. */
    private static void tongueBeginsAnew() {
        for (int law = 0; law < 3; law++) {
            for (int way = 0; way < 2; way++) {
                OneWordLetters x = States.in(States::busy);
                OneWordLetters y = new OneWordLetters();
                for (OneWordLetters one : List.of(x, y)) {
                    one.law(law);
                    one.way(way);
                    one.seed(Integer.MAX_VALUE - law);
                }
                x.settle();
                States.small(x);
                States.small(y);
                DUES.same("3 a tongue begins anew", Probe.withFault(x), Probe.withFault(y));
            }
        }
        String large = "letter 2;" + "word turn 99 99;".repeat(4) + "frame turn,turn;frame name,name;frame deed,deed;frame link,link;"
            + "frame deed,name;pair 0 0 99 99;pair 0 2 99 99;pair 3 0 0 0;pair 0 1 1 1;";
        OneWordLetters later = Dues.speaking(large);
        Dues.feedText(later, large);
        later.tongue();
        States.small(later);
        DUES.same("3 nothing of the tongue before it", Probe.withFault(later), Probe.withFault(States.in(States::small)));
        OneWordLetters z = States.in(States::busy);
        States.small(z);
        due("3 image 0 is gone", z.goBack(0), -1000000003);
        due("3 image 1 is gone", z.goBack(1), -1000000003);
    }

    private static void faultOfTheLatest() {
        OneWordLetters x = new OneWordLetters();
        due("4 none yet", x.fault(), NONE);
        Dues.feedText(x, "letter 9;");
        due("4 none before tongue()", x.fault(), NONE);
        x.tongue();
        due("4 byte 7", x.fault(), 7);
        Dues.feedText(x, "letter 2;x");
        due("4 the latest is the first yet", x.fault(), 7);
        x.tongue();
        due("4 byte 9", x.fault(), 9);
        Dues.feedText(x, ";");
        x.tongue();
        due("4 byte 0", x.fault(), 0);
        Dues.feedText(x, "letter 2;");
        x.tongue();
        due("4 none again", x.fault(), NONE);
    }
}
