import java.util.List;

/**
 * For each argument of each call the last number that is allowed and the first that is not, on both sides; of several
 * refusals the first; and behind each refused call that nothing has changed, seen by an object of the same calls
 * without the refused one.
 */
public final class BoundsTest {
    private static final int NONE = -1;
    private static final int UNKNOWN = -1000000001;
    private static final int OUTSIDE = -1000000002;
    private static final int NOT = -1000000003;
    private static final int FULL = -1000000004;

    private static final Dues DUES = new Dues();

    private interface Call {
        int on(OneWordLetters x);
    }

    private interface CallWith {
        int on(OneWordLetters x, int v);
    }

    public static void main(String[] args) {
        constants();
        argumentsOfTongue();
        argumentsOfCourse();
        argumentsOfTried();
        argumentsOfGuesses();
        argumentsOfBooks();
        whichOfTheList();
        lastLetterOfEachTongue();
        unknownComesFirst();
        outsideComesBeforeNot();
        outsideComesBeforeFull();
        notComesBeforeFull();
        full();
        not();
        beforeTheFirstTongue();
        withoutWords();
        askingChangesNothing();
        DUES.close("BoundsTest");
    }

    private static void due(String what, long got, long want) {
        DUES.due(what, got, want);
    }

    /** The call answers the refusal, and the object is then like one that was not asked. */
    private static void refused(String what, States.State state, Call call, int want) {
        OneWordLetters x = States.in(state);
        due(what, call.on(x), want);
        List<String> without = Probe.withFault(States.in(state));
        DUES.same(what + " changed something", Probe.withFault(x), without);
    }

    private static void bounds(String what, States.State state, CallWith call, int least, int most, int refusal) {
        for (int v : new int[] {least, most}) {
            int answer = call.on(States.in(state), v);
            DUES.holds(what + " " + v + " is allowed, but answered " + answer, answer > UNKNOWN);
        }
        long[] beyond = {least - 1L, most + 1L, Integer.MIN_VALUE, Integer.MAX_VALUE, least - 256L, most + 256L, most + 65536L};
        for (long v : beyond) {
            int n = (int) v;
            if (n == v && (n < least || n > most)) {
                refused(what + " " + n, state, x -> call.on(x, n), refusal);
            }
        }
    }

    private static void constants() {
        due("NONE", OneWordLetters.NONE, NONE);
        due("UNKNOWN", OneWordLetters.UNKNOWN, UNKNOWN);
        due("OUTSIDE", OneWordLetters.OUTSIDE, OUTSIDE);
        due("NOT", OneWordLetters.NOT, NOT);
        due("FULL", OneWordLetters.FULL, FULL);
    }

    private static void argumentsOfTongue() {
        bounds("2 feed n", States::rich, (x, v) -> x.feed(v, 0x77_6f72_6420_6e61L), 1, 8, OUTSIDE);
        bounds("5 told what", States::rich, (x, v) -> x.told(v), 0, 13, OUTSIDE);
        bounds("6 word w", States::rich, (x, v) -> x.word(v, 0), 0, 3, UNKNOWN);
        bounds("6 word what", States::rich, (x, v) -> x.word(3, v), 0, 2, OUTSIDE);
        bounds("7 at letter", States::rich, (x, v) -> x.at(v, 1), 0, 15, OUTSIDE);
        bounds("7 at place", States::rich, (x, v) -> x.at(15, v), 0, 1, OUTSIDE);
        bounds("8 stands letter", States::rich, (x, v) -> x.stands(v), 0, 15, OUTSIDE);
        due("8 it stands", States.in(States::rich).stands(4), 1);
        due("8 it does not", States.in(States::rich).stands(5), 0);
        bounds("9 worth h", States::rich, (x, v) -> x.worth(v, 4), 0, 1, UNKNOWN);
        bounds("9 worth letter", States::rich, (x, v) -> x.worth(1, v), 0, 15, OUTSIDE);
        bounds("10 law v", States::rich, (x, v) -> x.law(v), 0, 2, OUTSIDE);
        bounds("11 way v", States::rich, (x, v) -> x.way(v), 0, 1, OUTSIDE);
        bounds("12 change letter, how many", States::rich, (x, v) -> x.change(v, NONE), 0, 15, OUTSIDE);
        bounds("12 change letter, one", States::rich, (x, v) -> x.change(v, 0), 0, 15, OUTSIDE);
    }

    private static void argumentsOfCourse() {
        bounds("13 begin letter", States::rich, (x, v) -> x.begin(v, 0), 0, 15, OUTSIDE);
        bounds("13 begin h", States::rich, (x, v) -> x.begin(6, v), 0, 1, UNKNOWN);
        bounds("14 send letter", States::nonsense, (x, v) -> x.send(v), 0, 15, OUTSIDE);
        due("14 send(0) from 3", States.in(States::nonsense).send(0), 1);
        due("14 send(15) from 3", States.in(States::nonsense).send(15), 1);
        bounds("16 had h", States::rich, (x, v) -> x.had(v), 0, 1, UNKNOWN);
        bounds("17 log what", States::rich, (x, v) -> x.log(0, v), 0, 2, OUTSIDE);
        bounds("17 log what of an entry that there is not", States::rich, (x, v) -> x.log(4, v), 0, 2, OUTSIDE);
    }

    private static void argumentsOfTried() {
        bounds("18 fewest from", States::rich, (x, v) -> x.fewest(v, 4, false), 0, 15, OUTSIDE);
        bounds("18 fewest to", States::rich, (x, v) -> x.fewest(4, v, false), 0, 15, OUTSIDE);
        bounds("18 fewest from, any", States::rich, (x, v) -> x.fewest(v, 4, true), 0, 15, OUTSIDE);
        bounds("18 fewest to, any", States::rich, (x, v) -> x.fewest(4, v, true), 0, 15, OUTSIDE);
        bounds("18 fewest to itself", States::rich, (x, v) -> x.fewest(v, v, true), 0, 15, OUTSIDE);
        bounds("20 ahead letter", States::rich, (x, v) -> x.ahead(v, 0, 8, 2), 0, 15, OUTSIDE);
        bounds("20 ahead h", States::rich, (x, v) -> x.ahead(4, v, 8, 2), 0, 1, UNKNOWN);
        bounds("20 ahead n", States::rich, (x, v) -> x.ahead(4, 0, v, 2), 0, 8, OUTSIDE);
        bounds("20 ahead what", States::rich, (x, v) -> x.ahead(4, 0, 8, v), 0, 4, OUTSIDE);
        bounds("21 first letter", States::rich, (x, v) -> x.first(v, 1), 0, 15, OUTSIDE);
        bounds("21 first n", States::rich, (x, v) -> x.first(4, v), 0, 8, OUTSIDE);
        bounds("22 carrier p", States::rich, (x, v) -> x.carrier(v, 4, NONE), 0, 15, OUTSIDE);
        bounds("22 carrier g", States::rich, (x, v) -> x.carrier(4, v, NONE), 0, 15, OUTSIDE);
    }

    private static void argumentsOfGuesses() {
        bounds("23 guess h", States::rich, (x, v) -> x.guess(v), 0, 1, UNKNOWN);
        bounds("24 mean g", States::rich, (x, v) -> x.mean(v, 0, 7), 0, 1, UNKNOWN);
        bounds("24 mean g of six", States::full, (x, v) -> x.mean(v, 0, 7), 0, 5, UNKNOWN);
        bounds("24 mean w", States::rich, (x, v) -> x.mean(0, v, 7), 0, 3, UNKNOWN);
        bounds("24 mean v", States::rich, (x, v) -> x.mean(0, 0, v), -50, 49, OUTSIDE);
        bounds("25 fits g", States::rich, (x, v) -> x.fits(v), 0, 1, UNKNOWN);
        bounds("25 fits g of six", States::full, (x, v) -> x.fits(v), 0, 5, UNKNOWN);
        OneWordLetters x = States.in(States::rich);
        x.mean(0, 3, -50);
        x.mean(1, 0, 49);
        due("24 -50 is kept", x.mean(0, 3, 0), -50);
        due("24 49 is kept", x.mean(1, 0, 0), 49);
    }

    private static void argumentsOfBooks() {
        bounds("26 write letter", States::rich, (x, v) -> x.write(v), 0, 15, OUTSIDE);
        bounds("29 drift n", States::rich, (x, v) -> x.drift(v), 1, 40, OUTSIDE);
        bounds("30 seed v", States::rich, (x, v) -> x.seed(v), 0, Integer.MAX_VALUE, OUTSIDE);
        bounds("31 keep i", States::rich, (x, v) -> x.keep(v), 0, 1, UNKNOWN);
        bounds("32 goBack i", States::rich, (x, v) -> x.goBack(v), 0, 1, UNKNOWN);
        OneWordLetters x = States.in(States::rich);
        x.seed(Integer.MAX_VALUE);
        due("30 2147483647 is kept", x.seed(0), Integer.MAX_VALUE);
        due("30 0 is kept", x.seed(5), 0);
    }

    /** i = NONE how many, else the i-th; all others are not so many, also those below NONE. */
    private static void whichOfTheList() {
        int[] beyond = {-2, -3, -257, Integer.MIN_VALUE, Integer.MAX_VALUE, 256, 65536, OUTSIDE};
        for (int i : beyond) {
            refused("12 change(0, " + i + ")", States::rich, x -> x.change(0, i), NONE);
            refused("17 log(" + i + ", 2)", States::rich, x -> x.log(i, 2), NONE);
            refused("19 still(" + i + ")", States::rich, x -> x.still(i), NONE);
            refused("22 carrier(0, 7, " + i + ")", States::rich, x -> x.carrier(0, 7, i), NONE);
        }
        OneWordLetters x = States.in(States::rich);
        due("12 how many", x.change(0, NONE), 2);
        due("12 the last", x.change(0, 1), 4);
        due("12 behind the last", x.change(0, 2), NONE);
        due("17 the last", x.log(3, 2), 4);
        due("17 behind the last", x.log(4, 2), NONE);
        due("17 ahead of the first", x.log(-1, 2), NONE);
        due("19 how many", x.still(NONE), 1);
        due("19 the last", x.still(0), 3);
        due("19 behind the last", x.still(1), NONE);
        due("22 how many", x.carrier(0, 7, NONE), 2);
        due("22 the last", x.carrier(0, 7, 1), 4);
        due("22 behind the last", x.carrier(0, 7, 2), NONE);
        due("12 none", x.change(3, NONE), 0);
        due("12 none", x.change(3, 0), NONE);
        due("22 none", x.carrier(4, 3, NONE), 0);
        due("22 none", x.carrier(4, 3, 0), NONE);
        OneWordLetters y = States.in(States::full);
        due("17 the 60th", y.log(59, 0), 0);
        due("17 the 61st", y.log(60, 0), NONE);
    }

    /** 0 to N to the L less 1. */
    private static void lastLetterOfEachTongue() {
        for (int length = 2; length <= 4; length++) {
            int letters = 1;
            for (int words = 1; words <= 8; words++) {
                OneWordLetters x = new OneWordLetters();
                Dues.feedText(x, "letter " + length + ";" + "word name 51 50;".repeat(words));
                letters = Math.toIntExact(Math.round(Math.pow(words, length)));
                String of = " of " + words + " words, " + length + " to a letter";
                due("3 letters" + of, x.tongue(), letters);
                lastLetter(x, letters - 1, length, words, of);
                noLetter(x, letters, of);
                noLetter(x, -1, of);
            }
        }
    }

    private static void lastLetter(OneWordLetters x, int last, int length, int words, String of) {
        for (int place = 0; place < length; place++) {
            due("7 last letter" + of, x.at(last, place), words - 1);
            due("7 first letter" + of, x.at(0, place), 0);
        }
        due("7 place L" + of, x.at(last, length), OUTSIDE);
        due("7 place -1" + of, x.at(last, -1), OUTSIDE);
        due("8 last" + of, x.stands(last), 0);
        due("9 last" + of, x.worth(0, last), 0);
        due("13 last" + of, x.begin(last, 1), 0);
        due("26 last" + of, x.write(last), 1);
        x.way(1);
        due("12 last" + of, x.change(last, NONE), length * (words - 1));
        due("18 from first to last" + of, x.fewest(0, last, true), words == 1 ? 0 : length);
        due("20 last" + of, x.ahead(last, 1, 0, 2), last);
        due("22 last" + of, x.carrier(last, last, NONE), length * (words - 1));
        due("6 last word" + of, x.word(words - 1, 1), 1);
        due("6 no word" + of, x.word(words, 1), UNKNOWN);
        x.guess(0);
        due("24 last word" + of, x.mean(0, words - 1, 1), 0);
        due("24 no word" + of, x.mean(0, words, 1), UNKNOWN);
    }

    private static void noLetter(OneWordLetters x, int letter, String of) {
        String what = " letter " + letter + of;
        due("7" + what, x.at(letter, 0), OUTSIDE);
        due("8" + what, x.stands(letter), OUTSIDE);
        due("9" + what, x.worth(0, letter), OUTSIDE);
        due("12" + what, x.change(letter, NONE), OUTSIDE);
        due("13" + what, x.begin(letter, 0), OUTSIDE);
        due("14" + what, x.send(letter), OUTSIDE);
        due("18" + what, x.fewest(letter, 0, true), OUTSIDE);
        due("18" + what, x.fewest(0, letter, true), OUTSIDE);
        due("20" + what, x.ahead(letter, 0, 1, 0), OUTSIDE);
        due("21" + what, x.first(letter, 1), OUTSIDE);
        due("22" + what, x.carrier(letter, 0, NONE), OUTSIDE);
        due("22" + what, x.carrier(0, letter, NONE), OUTSIDE);
        due("26" + what, x.write(letter), OUTSIDE);
    }

    private static void unknownComesFirst() {
        refused("6 word 4, what 3", States::rich, x -> x.word(4, 3), UNKNOWN);
        refused("6 word -1, what -1", States::rich, x -> x.word(-1, -1), UNKNOWN);
        refused("9 house 2, letter 16", States::rich, x -> x.worth(2, 16), UNKNOWN);
        refused("9 house -1, letter -1", States::rich, x -> x.worth(-1, -1), UNKNOWN);
        refused("13 letter 16, house 2", States::rich, x -> x.begin(16, 2), UNKNOWN);
        refused("13 letter -1, house -1", States::settled, x -> x.begin(-1, -1), UNKNOWN);
        refused("20 house 2 and all outside", States::rich, x -> x.ahead(16, 2, 9, 5), UNKNOWN);
        refused("20 house -1, letter -1", States::rich, x -> x.ahead(-1, -1, 1, 1), UNKNOWN);
        refused("20 house 2, n 9", States::rich, x -> x.ahead(4, 2, 9, 1), UNKNOWN);
        refused("20 house 2, what 5", States::rich, x -> x.ahead(4, 2, 1, 5), UNKNOWN);
        refused("23 house 2, six guesses", States::full, x -> x.guess(2), UNKNOWN);
        refused("23 house -1, six guesses", States::full, x -> x.guess(-1), UNKNOWN);
        refused("24 guess 2, v 50", States::rich, x -> x.mean(2, 0, 50), UNKNOWN);
        refused("24 guess -1, v -51", States::rich, x -> x.mean(-1, 0, -51), UNKNOWN);
        refused("24 word 4, v 50", States::rich, x -> x.mean(0, 4, 50), UNKNOWN);
        refused("24 word -1, v -51", States::rich, x -> x.mean(0, -1, -51), UNKNOWN);
        refused("32 image 2, none kept", States::small, x -> x.goBack(2), UNKNOWN);
        refused("32 image -1, none kept", States::small, x -> x.goBack(-1), UNKNOWN);
    }

    private static void outsideComesBeforeNot() {
        refused("14 letter 16, settled", States::settled, x -> x.send(16), OUTSIDE);
        refused("14 letter -1, settled", States::settled, x -> x.send(-1), OUTSIDE);
        refused("29 n 0, settled", States::settled, x -> x.drift(0), OUTSIDE);
        refused("29 n 41, settled", States::settled, x -> x.drift(41), OUTSIDE);
        refused("29 n 0, no words", States::wordless, x -> x.drift(0), OUTSIDE);
        refused("29 n 41, no words", States::wordless, x -> x.drift(41), OUTSIDE);
        refused("29 n 41, no tongue", States::fresh, x -> x.drift(41), OUTSIDE);
    }

    private static void outsideComesBeforeFull() {
        refused("2 n 0, 500 bytes", States::full, x -> x.feed(0, 1), OUTSIDE);
        refused("2 n 9, 500 bytes", States::full, x -> x.feed(9, 1), OUTSIDE);
        refused("2 n -1, 500 bytes", States::full, x -> x.feed(-1, 1), OUTSIDE);
        refused("2 n -2147483648, 500 bytes", States::full, x -> x.feed(Integer.MIN_VALUE, 1), OUTSIDE);
        refused("14 letter 16, log full", States::full, x -> x.send(16), OUTSIDE);
        refused("14 letter -1, log full", States::full, x -> x.send(-1), OUTSIDE);
        refused("14 letter 16, log full, settled", States::fullAndSettled, x -> x.send(16), OUTSIDE);
        refused("26 letter 16, book full", States::full, x -> x.write(16), OUTSIDE);
        refused("26 letter -1, book full", States::full, x -> x.write(-1), OUTSIDE);
    }

    private static void notComesBeforeFull() {
        refused("14 no change, log full", States::full, x -> x.send(3), NOT);
        refused("14 as it came, log full", States::full, x -> x.send(4), NOT);
        refused("14 nonsense, log full", States::full, x -> x.send(5), NOT);
        refused("14 settled, log full", States::fullAndSettled, x -> x.send(6), NOT);
    }

    private static void full() {
        refused("2 500 bytes", States::full, x -> x.feed(1, 0x3b), FULL);
        refused("2 500 bytes, n 8", States::full, x -> x.feed(8, 0x3b), FULL);
        refused("14 log full", States::full, x -> x.send(6), FULL);
        refused("23 six guesses", States::full, x -> x.guess(0), FULL);
        refused("23 six guesses", States::full, x -> x.guess(1), FULL);
        refused("26 thirty letters", States::full, x -> x.write(4), FULL);
        OneWordLetters x = States.in(States::full);
        due("2 bytes", x.told(4), 500);
        due("14 log", x.told(10), 60);
        due("23 guesses", x.told(11), 6);
        due("26 book", x.told(12), 30);
        x.mean(0, 0, 9);
        due("27 both", x.tear(), 36);
        due("23 room again", x.guess(1), 0);
        due("23 all words worth 0 again", x.mean(0, 0, 1), 0);
        due("26 room again", x.write(15), 1);
        due("3 the text of 500 bytes", x.tongue(), 1);
        due("2 room again", x.feed(8, 0), 8);
        due("14 room again", x.told(10), 0);
    }

    private static void not() {
        refused("14 settled", States::settled, x -> x.send(6), NOT);
        refused("14 no change: as it came", States::rich, x -> x.send(4), NOT);
        refused("14 no change: two words", States::rich, x -> x.send(3), NOT);
        refused("14 no change: nonsense by way 0", States::rich, x -> x.send(5), NOT);
        refused("14 no change: turned about by law 0", States::nonsense, x -> x.send(12), NOT);
        refused("15 settled", States::settled, x -> x.settle(), NOT);
        refused("15 no words", States::wordless, x -> x.settle(), NOT);
        refused("15 no tongue", States::fresh, x -> x.settle(), NOT);
        refused("29 settled", States::settled, x -> x.drift(1), NOT);
        refused("29 settled", States::settled, x -> x.drift(40), NOT);
        refused("29 no words", States::wordless, x -> x.drift(1), NOT);
        refused("29 no tongue", States::fresh, x -> x.drift(40), NOT);
        refused("32 not kept", States::small, x -> x.goBack(0), NOT);
        refused("32 not kept", States::small, x -> x.goBack(1), NOT);
        refused("32 not kept, no tongue", States::fresh, x -> x.goBack(0), NOT);
        refused("32 the other one is kept", BoundsTest::keptOne, x -> x.goBack(0), NOT);
        refused("32 the other one is kept", BoundsTest::keptZero, x -> x.goBack(1), NOT);
    }

    private static void keptOne(OneWordLetters x) {
        States.small(x);
        x.keep(1);
    }

    private static void keptZero(OneWordLetters x) {
        States.small(x);
        x.keep(0);
    }

    /** Every call on an object that has no words and no letters; what is not refused answers as the document says. */
    private static void beforeTheFirstTongue() {
        noWords("no tongue", States::fresh, 0);
        OneWordLetters x = new OneWordLetters();
        for (int what = 0; what <= 13; what++) {
            due("5 told(" + what + ") of a new object", x.told(what), 0);
        }
        due("4 fault of a new object", x.fault(), NONE);
        due("2 feed on a new object", x.feed(1, ' '), 1);
        due("3 empty text", States.in(States::fresh).tongue(), 0);
    }

    private static void withoutWords() {
        noWords("no words", States::wordless, 3);
        OneWordLetters x = States.in(States::wordless);
        int[] want = {3, 0, 1, 0, 0, 0, 0, 0, 0, 0, 0, 0, 0, 0};
        for (int what = 0; what <= 13; what++) {
            due("5 told(" + what + ") without words", x.told(what), want[what]);
        }
        due("7 place 0 of no letter", x.at(0, 0), OUTSIDE);
    }

    private static void noWords(String when, States.State state, int length) {
        for (int v : new int[] {0, -1, 1, Integer.MAX_VALUE, Integer.MIN_VALUE}) {
            String what = " " + v + ", " + when;
            refused("6 word" + what, state, x -> x.word(v, 0), UNKNOWN);
            refused("7 at" + what, state, x -> x.at(v, 0), OUTSIDE);
            refused("7 at place" + what, state, x -> x.at(0, v), OUTSIDE);
            refused("8 stands" + what, state, x -> x.stands(v), OUTSIDE);
            refused("9 worth" + what, state, x -> x.worth(0, v), OUTSIDE);
            refused("12 change" + what, state, x -> x.change(v, NONE), OUTSIDE);
            refused("12 change i" + what, state, x -> x.change(0, v), OUTSIDE);
            refused("13 begin" + what, state, x -> x.begin(v, 0), OUTSIDE);
            refused("14 send" + what, state, x -> x.send(v), OUTSIDE);
            refused("17 log" + what, state, x -> x.log(v, 0), NONE);
            refused("18 fewest" + what, state, x -> x.fewest(v, v, true), OUTSIDE);
            refused("19 still" + what, state, x -> x.still(v), v == NONE ? 0 : NONE);
            refused("20 ahead" + what, state, x -> x.ahead(v, 0, 0, 0), OUTSIDE);
            refused("21 first" + what, state, x -> x.first(v, 0), OUTSIDE);
            refused("22 carrier" + what, state, x -> x.carrier(v, v, NONE), OUTSIDE);
            refused("24 mean" + what, state, x -> x.mean(v, 0, 0), UNKNOWN);
            refused("25 fits" + what, state, x -> x.fits(v), UNKNOWN);
            refused("26 write" + what, state, x -> x.write(v), OUTSIDE);
        }
        refused("9 house 2, " + when, state, x -> x.worth(2, 0), UNKNOWN);
        refused("13 house 2, " + when, state, x -> x.begin(0, 2), UNKNOWN);
        refused("16 house 2, " + when, state, x -> x.had(2), UNKNOWN);
        refused("20 house 2, " + when, state, x -> x.ahead(0, 2, 0, 0), UNKNOWN);
        refused("23 house 2, " + when, state, x -> x.guess(2), UNKNOWN);
        refused("17 what 3, " + when, state, x -> x.log(0, 3), OUTSIDE);
        refused("28 judge, " + when, state, x -> x.judge(), NONE);
        refused("27 tear, " + when, state, x -> x.tear(), 0);
        OneWordLetters x = States.in(state);
        due("5 L, " + when, x.told(0), length);
        due("10 law, " + when, x.law(2), 0);
        due("11 way, " + when, x.way(1), 0);
        due("16 had, " + when, x.had(0) + x.had(1), 0);
        due("30 seed, " + when, x.seed(9), 0);
        due("31 keep, " + when, x.keep(0), 1);
        x.seed(8);
        due("32 goBack, " + when, x.goBack(0), 1);
        due("32 seed, " + when, x.seed(9), 9);
        for (int g = 0; g < 6; g++) {
            due("23 guess, " + when, x.guess(g % 2), g);
            due("25 fits, " + when, x.fits(g), 1);
            due("24 mean, " + when, x.mean(g, 0, 0), UNKNOWN);
        }
        due("23 full, " + when, x.guess(0), FULL);
        due("27 tear, " + when, x.tear(), 6);
    }

    /** What only tells leaves all as it was, though the object may keep what it found. */
    private static void askingChangesNothing() {
        for (States.State state : new States.State[] {States::rich, States::settled, States::full, States::nonsense}) {
            OneWordLetters x = States.in(state);
            x.fault();
            x.told(13);
            x.word(0, 1);
            x.at(4, 1);
            x.stands(4);
            x.worth(1, 4);
            x.change(4, NONE);
            x.had(0);
            x.log(0, 0);
            x.fewest(4, 3, true);
            x.still(0);
            x.ahead(4, 0, 8, 4);
            x.first(4, 8);
            x.carrier(4, 6, 0);
            x.fits(0);
            x.judge();
            DUES.same("asking changed something", Probe.withFault(x), Probe.withFault(States.in(state)));
        }
    }
}
