/** For each promise of the document: ordinary inputs, the edges that it names, and wrong inputs, worked out by hand. */
public final class PromiseTest {
    private static final int NONE = -1;
    private static final int UNKNOWN = -1000000001;
    private static final int OUTSIDE = -1000000002;
    private static final int NOT = -1000000003;
    private static final int FULL = -1000000004;

    // Words: 0 name (10, -10), 1 deed (20, -5), 2 turn (0, 0), 3 link (-30, 40).
    // Letters that stand: 3 (link name: -20, 30), 4 (name deed: 35, -17), 6 (turn deed: -20, 5).
    private static final String SMALL = "letter 2;word name 60 40;word deed 70 45;word turn 50 50;word link 20 90;"
            + "frame name,deed;frame turn,deed;frame link,name;pair 0 1 55 48;";
    // Words: 0 turn (1, 2), 1 name (10, -20), 2 deed (-5, 7); letter = w0 + 3 w1 + 9 w2.
    private static final String TURNS = "letter 3;word turn 51 52;word name 60 30;word deed 45 57;"
            + "frame turn,turn,turn;frame turn,name,deed;frame name,turn,name;pair 0 1 54 53;pair 1 0 0 99;";
    // Every letter stands; words 0 .. 2 are worth 1, 2, 3 to house 0 and 3, 1, 2 to house 1.
    private static final String NAMES = "letter 2;word name 51 53;word name 52 51;word name 53 52;frame name,name;";

    private static final Dues DUES = new Dues();

    private static void due(String what, long got, long want) {
        DUES.due(what, got, want);
    }

    public static void main(String[] args) {
        newObject();
        feed();
        tongue();
        faultsOfHead();
        faultsOfWords();
        faultsOfFrames();
        faultsOfPairs();
        tongueKeepsAllOnFault();
        told();
        word();
        at();
        stands();
        worth();
        lawAndWay();
        change();
        begin();
        send();
        settle();
        hadAndLog();
        fewest();
        still();
        ahead();
        first();
        carrier();
        guessAndMean();
        fits();
        writeTearJudge();
        drift();
        driftEdges();
        seed();
        images();
        DUES.close("PromiseTest");
    }

    private static void newObject() {
        OneWordLetters x = new OneWordLetters();
        for (int what = 0; what <= 13; what++) {
            due("1 told(" + what + ")", x.told(what), 0);
        }
        due("1 fault", x.fault(), NONE);
        due("1 word", x.word(0, 0), UNKNOWN);
        due("1 at", x.at(0, 0), OUTSIDE);
        due("1 stands", x.stands(0), OUTSIDE);
        due("1 worth", x.worth(0, 0), OUTSIDE);
        due("1 change", x.change(0, NONE), OUTSIDE);
        due("1 begin", x.begin(0, 0), OUTSIDE);
        due("1 send", x.send(0), OUTSIDE);
        due("1 settle", x.settle(), NOT);
        due("1 had", x.had(0), 0);
        due("1 log", x.log(0, 0), NONE);
        due("1 fewest", x.fewest(0, 0, true), OUTSIDE);
        due("1 still", x.still(NONE), 0);
        due("1 still(0)", x.still(0), NONE);
        due("1 ahead", x.ahead(0, 0, 0, 0), OUTSIDE);
        due("1 first", x.first(0, 0), OUTSIDE);
        due("1 carrier", x.carrier(0, 0, NONE), OUTSIDE);
        due("1 guess", x.guess(0), 0);
        due("1 mean", x.mean(0, 0, 0), UNKNOWN);
        due("1 fits", x.fits(0), 1);
        due("1 write", x.write(0), OUTSIDE);
        due("1 judge", x.judge(), NONE);
        due("1 drift", x.drift(1), NOT);
        due("1 goBack", x.goBack(0), NOT);
        due("1 keep", x.keep(0), 1);
        due("1 goBack kept", x.goBack(0), 1);
        due("1 tear", x.tear(), 1);
    }

    private static void feed() {
        OneWordLetters x = new OneWordLetters();
        due("2 feed(0)", x.feed(0, 1), OUTSIDE);
        due("2 feed(9)", x.feed(9, 1), OUTSIDE);
        due("2 feed(-1)", x.feed(-1, 1), OUTSIDE);
        due("2 feed(max)", x.feed(Integer.MAX_VALUE, 1), OUTSIDE);
        due("2 nothing came", x.told(4), 0);
        due("2 feed(8)", x.feed(8, -1L), 8);
        for (int k = 1; k < 62; k++) {
            due("2 feed " + k, x.feed(8, 0L), 8 + 8 * k);
        }
        due("2 full", x.feed(5, 0L), FULL);
        due("2 outside ahead of full", x.feed(9, 0L), OUTSIDE);
        due("2 up to 500", x.feed(4, 0L), 500);
        due("2 full at 500", x.feed(1, 0L), FULL);
        due("2 still 500", x.told(4), 500);
        due("2 byte 255 cannot stand", x.tongue(), -11);
        due("2 first byte", x.fault(), 0);
        // The highest of the n bytes comes first; what is above them is not looked at.
        x.feed(6, 0x7878_6c65_7474_6572L);
        x.feed(3, 0x1111_1111_1120_323bL);
        due("2 'letter 2;'", x.tongue(), 0);
        due("2 L", x.told(0), 2);
    }

    private static void tongue() {
        OneWordLetters x = new OneWordLetters();
        Dues.feedText(x, SMALL);
        due("3 letters", x.tongue(), 16);
        due("3 text empty", x.told(4), 0);
        due("3 fault", x.fault(), NONE);
        useAll(x);
        Dues.feedText(x, NAMES);
        due("3 another", x.tongue(), 9);
        due("3 L", x.told(0), 2);
        due("3 words", x.told(1), 3);
        due("3 frames", x.told(2), 1);
        due("3 pairs", x.told(3), 0);
        due("3 law stays", x.told(5), 2);
        due("3 way stays", x.told(6), 1);
        due("3 letter", x.told(7), 0);
        due("3 turn", x.told(8), 0);
        due("3 not settled", x.told(9), 0);
        due("3 log", x.told(10), 0);
        due("3 guesses", x.told(11), 0);
        due("3 book", x.told(12), 0);
        due("3 had 0", x.had(0), 0);
        due("3 had 1", x.had(1), 0);
        due("3 images gone", x.goBack(0), NOT);
        due("3 seed stays", x.seed(0), 77);
        due("3 frames are gone", x.stands(6), 1);
        due("3 pairs are gone", x.worth(0, 3), 3);
        due("3 as many as stand", x.told(13), 9);
        Dues.feedText(x, "letter 2;word name 51 53;word deed 52 51;frame deed,name;");
        due("3 a third", x.tongue(), 4);
        due("3 its frame alone", x.told(13), 1);
        due("3 no frame of the one before", x.stands(2), 0);
        due("3 no pair of the one before", x.worth(0, 1), 3);
        due("3 empty", x.tongue(), 0);
        due("3 empty L", x.told(0), 0);
        due("3 empty words", x.told(1), 0);
        due("3 empty frames", x.told(2), 0);
        due("3 empty stands", x.told(13), 0);
        due("3 no letters", x.stands(0), OUTSIDE);
        tongue("letter 4;word name 1 1;", 1, 0);
        tongue("letter 3;word name 1 1;word name 1 1;", 8, 0);
        tongue("letter 2;frame name,deed;", 0, 0);
        String eight = "word deed 0 99;".repeat(8);
        tongue("letter 4;" + eight, 4096, 0);
        tongue("letter 2;" + eight + "frame deed,deed;".repeat(8), 64, 64);
    }

    private static void tongue(String text, int letters, int standing) {
        OneWordLetters x = new OneWordLetters();
        Dues.feedText(x, text);
        due("3 " + text, x.tongue(), letters);
        due("3 fault of " + text, x.fault(), NONE);
        due("3 standing of " + text, x.told(13), standing);
    }

    /** Leaves something everywhere: law 2, way 1, letter 6, settled, log, guess, book, image, seed 77. */
    private static void useAll(OneWordLetters x) {
        x.law(2);
        x.way(1);
        x.begin(4, 0);
        x.send(6);
        x.settle();
        x.guess(1);
        x.write(4);
        x.keep(0);
        x.seed(77);
    }

    private static void faults(String text, int number, int place) {
        OneWordLetters x = new OneWordLetters();
        Dues.feedText(x, text);
        int answer = x.tongue();
        if (number == 0) {
            DUES.holds("3 no fault in " + text + " but " + answer, answer >= 0);
        } else {
            due("3 " + text, answer, -10 - number);
        }
        due("4 byte of " + text, x.fault(), place);
        due("4 the text is empty behind " + text, x.told(4), 0);
    }

    private static void faultsOfHead() {
        faults("", 0, NONE);
        faults("   ", 0, NONE);
        faults("letter 2", 1, 8);
        faults("letter 2 ", 1, 9);
        faults("letter", 1, 6);
        faults("lett", 1, 0);
        faults("  letter  2  ;  ", 0, NONE);
        faults("letter2;", 0, NONE);
        faults("letter 002;", 0, NONE);
        faults("letter 0002;", 2, 7);
        faults("letter 1;", 2, 7);
        faults("letter 4;", 0, NONE);
        faults("letter 5;", 2, 7);
        faults("letter 23;", 2, 7);
        faults("letter ;", 1, 7);
        faults("letter x;", 1, 7);
        faults("letter -2;", 1, 7);
        faults("letter 2 3;", 1, 9);
        faults("letter 2 3456;", 1, 9);
        faults("letter 2,", 1, 8);
        faults("letter 2letter", 1, 8);
        faults("letters 2;", 1, 0);
        faults(" lettEr 2;", 1, 1);
        faults(";", 1, 0);
        faults("2;", 1, 0);
        faults("word name 1 1;", 1, 0);
        faults("  frame name,name;", 1, 2);
        faults("pair 0 0 1 1;", 1, 0);
        faults("letter 2; letter 2;", 3, 10);
        faults("letter 2;letter", 3, 9);
        faults("letter 2;\tword name 1 1;", 1, 9);
        faults("letter 2;" + (char) 233, 1, 9);
        faults("letter 2;;", 1, 9);
        faults("letter 2;5", 1, 9);
        faults("letter 2;say 1;", 1, 9);
    }

    private static void faultsOfWords() {
        String one = "word name 1 1;";
        faults("letter 2;wordname 1 1;", 1, 9);
        faults("letter 2;word nam 1 1;", 1, 14);
        faults("letter 2;word word 1 1;", 1, 14);
        faults("letter 2;word namez 1 1;", 1, 14);
        faults("letter 2;word name` 1 1;", 1, 18);
        faults("letter 2;word name{ 1 1;", 1, 18);
        faults("letter 2;word name/1 1;", 1, 18);
        faults("letter 2;word name:1 1;", 1, 18);
        faults("letter 2;word letter 1 1;", 1, 14);
        faults("letter 2;word 1 1;", 1, 14);
        faults("letter 2;word name1 1;", 0, NONE);
        faults("letter 2 ; word  name  1  1 ; ", 0, NONE);
        faults("letter 2;word name 100 1;", 2, 19);
        faults("letter 2;word name 1 100;", 2, 21);
        faults("letter 2;word name 99 0;", 0, NONE);
        faults("letter 2;word name 099 001;", 0, NONE);
        faults("letter 2;word name 0099 1;", 2, 19);
        faults("letter 2;word name 12345678901234567890 1;", 2, 19);
        faults("letter 2;word name 11;", 1, 21);
        faults("letter 2;word name 1 1 1;", 1, 23);
        faults("letter 2;word name 1,1;", 1, 20);
        faults("letter 2;word name -1 1;", 1, 19);
        faults("letter 2;word name 1 1", 1, 22);
        faults("letter 2;word name 1x 1;", 1, 20);
        faults("letter 2;" + one.repeat(8), 0, NONE);
        faults("letter 2;" + one.repeat(9), 3, 121);
        faults("letter 2;" + one.repeat(8) + "words", 1, 121);
        faults("letter 2;" + one.repeat(8) + " word", 3, 122);
    }

    private static void faultsOfFrames() {
        String one = "frame name,name;";
        faults("letter 2;frame name;", 1, 19);
        faults("letter 2;frame name ;", 1, 20);
        faults("letter 3;frame name,deed;", 1, 24);
        faults("letter 2;frame name,deed,link;", 1, 24);
        faults("letter 3;frame name,deed,turn;", 0, NONE);
        faults("letter 4;frame name , deed,turn ,link ;", 0, NONE);
        faults("letter 2;frame name deed;", 1, 20);
        faults("letter 2;frame name,;", 1, 20);
        faults("letter 2;frame ,name;", 1, 15);
        faults("letter 2;frame name, word;", 1, 21);
        faults("letter 2;frame name,verb;", 1, 20);
        faults("letter 2;frame name,deed", 1, 24);
        faults("letter 2;frame", 1, 14);
        faults("letter 2;framename,deed;", 1, 9);
        faults("letter 2;" + one.repeat(8), 0, NONE);
        faults("letter 2;" + one.repeat(9), 3, 137);
    }

    private static void faultsOfPairs() {
        String one = "letter 2;word name 1 1;";
        faults(one + "pair 0 0 1 1;", 0, NONE);
        faults(one + "pair0 0 1 1;", 0, NONE);
        faults(one + "pair 1 0 1 1;", 2, 28);
        faults(one + "pair 0 1 1 1;", 2, 30);
        faults(one + "pair 0 0 100 1;", 2, 32);
        faults(one + "pair 0 0 1 100;", 2, 34);
        faults(one + "pair 0000 0 1 1;", 2, 28);
        faults(one + "pair 0 0000 1 1;", 2, 30);
        faults(one + "pair 00 1 1;", 2, 31);
        faults(one + "pair 0 0 1;", 1, 33);
        faults(one + "pair 0,0 1 1;", 1, 29);
        faults(one + "pair name 0 1 1;", 1, 28);
        faults(one + "pair 0 0 1 1;pair 0 0 1 1;", 4, 43);
        faults(one + "pair 0 0 1 1;pair 0  000 100 1;", 4, 44);
        faults(one + "pair 0 0 1 1;pair 0 1 1 1;", 2, 43);
        faults("letter 2;pair 0 0 1 1;", 2, 14);
        faults(one + "word name 1 1;pair 0 1 1 1;pair 1 0 1 1;", 0, NONE);
        faults(one + "pair 0 1 1 1;word name 1 1;", 2, 30);
        StringBuilder twelve = new StringBuilder("letter 2;").append("word name 1 1;".repeat(4));
        for (int k = 0; k < 12; k++) {
            twelve.append("pair ").append(k / 4).append(' ').append(k % 4).append(" 1 1;");
        }
        faults(twelve.toString(), 0, NONE);
        faults(twelve + "pair 3 3 1 1;", 3, 221);
        faults(twelve + "pair 0 0 1 1;", 3, 221);
    }

    private static void tongueKeepsAllOnFault() {
        OneWordLetters x = Dues.speaking(SMALL);
        useAll(x);
        int[] before = new int[14];
        for (int what = 0; what < 14; what++) {
            before[what] = x.told(what);
        }
        Dues.feedText(x, "letter 3;word turn 99 99;frame turn,turn,turn;pair 0 0 99 99;letter 3;");
        due("3 fault", x.tongue(), -13);
        due("4 byte", x.fault(), 61);
        for (int what = 0; what < 14; what++) {
            due("3 as it was: told(" + what + ")", x.told(what), before[what]);
        }
        due("3 had stays", x.had(0), -20);
        due("3 worth stays", x.worth(0, 4), 35);
        due("3 seed stays", x.seed(77), 77);
        due("3 image stays", x.goBack(0), 1);
        due("4 still told", x.fault(), 61);
        due("3 the text is empty", x.tongue(), 0);
        due("4 none", x.fault(), NONE);
    }

    private static void told() {
        OneWordLetters x = Dues.speaking(SMALL);
        useAll(x);
        x.feed(3, 0);
        int[] want = {2, 4, 3, 1, 3, 2, 1, 6, 1, 1, 1, 1, 1, 3};
        for (int what = 0; what < 14; what++) {
            due("5 told(" + what + ")", x.told(what), want[what]);
        }
        due("5 told(14)", x.told(14), OUTSIDE);
        due("5 told(-1)", x.told(-1), OUTSIDE);
    }

    private static void word() {
        OneWordLetters x = Dues.speaking("letter 2;word name 0 99;word deed 99 0;word link 50 51;word turn 49 1;");
        int[][] want = {{0, -50, 49}, {1, 49, -50}, {2, 0, 1}, {3, -1, -49}};
        for (int w = 0; w < 4; w++) {
            for (int what = 0; what < 3; what++) {
                due("6 word(" + w + ", " + what + ")", x.word(w, what), want[w][what]);
            }
        }
        due("6 no such word", x.word(4, 0), UNKNOWN);
        due("6 word -1", x.word(-1, 0), UNKNOWN);
        due("6 unknown ahead of outside", x.word(4, 3), UNKNOWN);
        due("6 what 3", x.word(0, 3), OUTSIDE);
        due("6 what -1", x.word(0, -1), OUTSIDE);
    }

    private static void at() {
        OneWordLetters x = Dues.speaking(TURNS);
        due("7 at(23, 0)", x.at(23, 0), 2);
        due("7 at(23, 1)", x.at(23, 1), 1);
        due("7 at(23, 2)", x.at(23, 2), 2);
        due("7 at(26, 2)", x.at(26, 2), 2);
        due("7 place 3", x.at(0, 3), OUTSIDE);
        due("7 place -1", x.at(0, -1), OUTSIDE);
        due("7 letter 27", x.at(27, 0), OUTSIDE);
        due("7 letter -1", x.at(-1, 0), OUTSIDE);
    }

    private static void stands() {
        OneWordLetters x = Dues.speaking(SMALL);
        for (int letter = 0; letter < 16; letter++) {
            due("8 stands(" + letter + ")", x.stands(letter), letter == 3 || letter == 4 || letter == 6 ? 1 : 0);
        }
        due("8 stands(16)", x.stands(16), OUTSIDE);
        due("8 stands(-1)", x.stands(-1), OUTSIDE);
    }

    private static void worth() {
        OneWordLetters x = Dues.speaking(SMALL);
        due("9 name deed 0", x.worth(0, 4), 35);
        due("9 name deed 1", x.worth(1, 4), -17);
        due("9 turn deed 0", x.worth(0, 6), -20);
        due("9 turn deed 1", x.worth(1, 6), 5);
        due("9 nonsense", x.worth(0, 5), 0);
        due("9 house 2", x.worth(2, 4), UNKNOWN);
        due("9 house -1", x.worth(-1, 4), UNKNOWN);
        due("9 unknown ahead of outside", x.worth(2, 16), UNKNOWN);
        due("9 letter 16", x.worth(1, 16), OUTSIDE);
        due("9 letter -1", x.worth(0, -1), OUTSIDE);
        OneWordLetters y = Dues.speaking(TURNS);
        // turn turn turn: 1 - 1 - 1; the turned one turns the next as well, no turn is undone.
        due("9 turns 0", y.worth(0, 0), -1);
        due("9 turns 1", y.worth(1, 0), -2);
        // turn name deed: 1 - 10 - 5, and the pair 0 1 as told (4, 3).
        due("9 turn name deed 0", y.worth(0, 21), -10);
        due("9 turn name deed 1", y.worth(1, 21), 2 + 20 + 7 + 3);
        // name turn name: 10 + 1 - 10, pairs 1 0 (-50, 49) and 0 1 (4, 3).
        due("9 name turn name 0", y.worth(0, 10), 1 - 46);
        due("9 name turn name 1", y.worth(1, 10), -20 + 2 + 20 + 52);
        OneWordLetters z = Dues.speaking("letter 3;word name 51 52;frame name,name,name;pair 0 0 60 40;");
        due("9 a pair twice 0", z.worth(0, 0), 23);
        due("9 a pair twice 1", z.worth(1, 0), -14);
    }

    private static void lawAndWay() {
        OneWordLetters x = new OneWordLetters();
        due("10 law(2)", x.law(2), 0);
        due("10 law(1)", x.law(1), 2);
        due("10 law(3)", x.law(3), OUTSIDE);
        due("10 law(-1)", x.law(-1), OUTSIDE);
        due("10 told", x.told(5), 1);
        due("10 law(0)", x.law(0), 1);
        due("11 way(1)", x.way(1), 0);
        due("11 way(2)", x.way(2), OUTSIDE);
        due("11 way(-1)", x.way(-1), OUTSIDE);
        due("11 told", x.told(6), 1);
        due("11 way(0)", x.way(0), 1);
        due("11 told", x.told(6), 0);
    }

    private static void changes(OneWordLetters x, int letter, int... want) {
        due("12 changes of " + letter, x.change(letter, NONE), want.length);
        for (int i = 0; i < want.length; i++) {
            due("12 change(" + letter + ", " + i + ")", x.change(letter, i), want[i]);
        }
        due("12 not so many of " + letter, x.change(letter, want.length), NONE);
    }

    private static void change() {
        OneWordLetters x = Dues.speaking(TURNS);
        changes(x, 21);
        changes(x, 0);
        changes(x, 12, 21);
        changes(x, 3, 0, 21);
        x.way(1);
        changes(x, 21, 22, 23, 18, 24, 3, 12);
        x.law(1);
        changes(x, 21, 19, 15);
        changes(x, 0);
        changes(x, 1, 3);
        changes(x, 10, 12, 4);
        x.way(0);
        changes(x, 19, 21);
        changes(x, 4, 10);
        x.law(2);
        changes(x, 3, 0, 21);
        changes(x, 4, 10);
        x.way(1);
        changes(x, 3, 4, 5, 0, 6, 12, 21, 1, 9);
        due("12 far", x.change(3, Integer.MAX_VALUE), NONE);
        due("12 far below", x.change(3, Integer.MIN_VALUE), NONE);
        due("12 letter 27", x.change(27, NONE), OUTSIDE);
        due("12 letter -1", x.change(-1, 0), OUTSIDE);
        OneWordLetters y = Dues.speaking("letter 4;" + "word name 50 50;".repeat(8) + "frame name,name,name,name;");
        y.law(2);
        due("12 most", y.change(668, NONE), 31);
    }

    private static void begin() {
        OneWordLetters x = Dues.speaking(SMALL);
        due("13 begin(4, 1)", x.begin(4, 1), 0);
        due("13 letter", x.told(7), 4);
        due("13 turn", x.told(8), 1);
        x.send(6);
        x.settle();
        due("13 begin(15, 1)", x.begin(15, 1), 6);
        due("13 not settled", x.told(9), 0);
        due("13 the log stays", x.told(10), 1);
        due("13 had stays", x.had(0), -20);
        due("13 house 2", x.begin(4, 2), UNKNOWN);
        due("13 house -1", x.begin(16, -1), UNKNOWN);
        due("13 letter 16", x.begin(16, 0), OUTSIDE);
        due("13 letter -1", x.begin(-1, 0), OUTSIDE);
        due("13 unchanged letter", x.told(7), 15);
        due("13 unchanged turn", x.told(8), 1);
    }

    private static void send() {
        OneWordLetters x = Dues.speaking(SMALL);
        x.begin(4, 0);
        due("14 no change", x.send(3), NOT);
        due("14 nonsense", x.send(5), NOT);
        due("14 as it came", x.send(4), NOT);
        due("14 letter 16", x.send(16), OUTSIDE);
        due("14 letter -1", x.send(-1), OUTSIDE);
        due("14 refused, not kept", x.told(10), 0);
        due("14 send(6)", x.send(6), 1);
        due("14 letter", x.told(7), 6);
        for (int k = 1; k < 60; k++) {
            due("14 to and fro", x.send(k % 2 == 0 ? 6 : 4), k % 2 == 0 ? 1 : 0);
        }
        due("14 log", x.told(10), 60);
        due("14 full", x.send(6), FULL);
        due("14 not ahead of full", x.send(3), NOT);
        due("14 outside ahead of full", x.send(16), OUTSIDE);
        due("14 full changes nothing", x.told(7), 4);
        x.settle();
        due("14 settled ahead of full", x.send(6), NOT);
        OneWordLetters y = Dues.speaking(SMALL);
        y.way(1);
        due("14 nonsense by way 1", y.send(5), NOT);
        due("14 nonsense by way 1", y.send(1), 1);
        y.law(1);
        due("14 by law 1", y.send(4), 0);
        due("14 no one word by law 1", y.send(6), NOT);
        y.settle();
        due("14 settled", y.send(1), NOT);
    }

    private static void settle() {
        OneWordLetters x = Dues.speaking(SMALL);
        x.begin(4, 1);
        due("15 worth to house 1", x.settle(), -17);
        due("15 settled", x.told(9), 1);
        due("15 again", x.settle(), NOT);
        due("15 the letter stays", x.told(7), 4);
        due("15 nothing is sent", x.told(10), 0);
        x.begin(3, 0);
        due("15 worth to house 0", x.settle(), -20);
        due("16 had 0", x.had(0), 15);
        due("16 had 1", x.had(1), 13);
        x.begin(0, 0);
        due("15 nonsense", x.settle(), 0);
        OneWordLetters y = Dues.speaking("letter 2;frame name,name;");
        due("15 no words", y.settle(), NOT);
    }

    private static void hadAndLog() {
        OneWordLetters x = Dues.speaking(SMALL);
        due("16 house 2", x.had(2), UNKNOWN);
        due("16 house -1", x.had(-1), UNKNOWN);
        x.begin(6, 1);
        x.send(4);
        x.send(6);
        int[][] want = {{1, 6, 4}, {0, 4, 6}};
        for (int i = 0; i < 2; i++) {
            for (int what = 0; what < 3; what++) {
                due("17 log(" + i + ", " + what + ")", x.log(i, what), want[i][what]);
            }
        }
        due("17 not so many", x.log(2, 0), NONE);
        due("17 entry -1", x.log(-1, 0), NONE);
        due("17 what 3", x.log(0, 3), OUTSIDE);
        due("17 what -1", x.log(0, -1), OUTSIDE);
        due("17 what of none", x.log(9, 3), OUTSIDE);
    }

    private static void fewest() {
        OneWordLetters x = Dues.speaking(SMALL);
        due("18 none to itself", x.fewest(5, 5, false), 0);
        due("18 one", x.fewest(4, 6, false), 1);
        due("18 to nonsense", x.fewest(4, 5, false), 1);
        due("18 out of nonsense", x.fewest(0, 15, false), 2);
        due("18 no way", x.fewest(4, 3, false), NONE);
        due("18 through any", x.fewest(4, 3, true), 2);
        x.way(1);
        due("18 the way does not matter", x.fewest(4, 3, false), NONE);
        x.way(0);
        due("18 the way does not matter", x.fewest(4, 3, true), 2);
        x.law(1);
        due("18 other words by law 1", x.fewest(4, 6, true), NONE);
        due("18 turned about", x.fewest(4, 1, false), 1);
        x.law(2);
        due("18 by law 2", x.fewest(3, 4, true), 2);
        due("18 by law 2", x.fewest(1, 4, true), 1);
        due("18 letter 16", x.fewest(16, 0, true), OUTSIDE);
        due("18 letter 16", x.fewest(0, 16, true), OUTSIDE);
        due("18 letter -1", x.fewest(-1, -1, false), OUTSIDE);
        OneWordLetters y = Dues.speaking("letter 4;word name 50 50;word deed 50 50;frame name,name,deed,deed;"
                + "frame name,deed,name,deed;frame deed,name,name,deed;");
        y.law(1);
        due("18 farthest turned about", y.fewest(12, 3, true), 4);
        due("18 through what stands", y.fewest(12, 9, false), 2);
        due("18 to nonsense behind what stands", y.fewest(12, 5, false), 3);
        due("18 farther nonsense", y.fewest(12, 3, false), NONE);
    }

    private static void still() {
        OneWordLetters x = Dues.speaking(SMALL);
        due("19 how many", x.still(NONE), 1);
        due("19 first", x.still(0), 3);
        due("19 not so many", x.still(1), NONE);
        due("19 below", x.still(-2), NONE);
        x.way(1);
        due("19 by way 1", x.still(NONE), 0);
        x.law(1);
        x.way(0);
        due("19 by law 1", x.still(NONE), 3);
        due("19 rising", x.still(0), 3);
        due("19 rising", x.still(1), 4);
        due("19 rising", x.still(2), 6);
        x.way(1);
        // 3 (-20, 30) and 6 (-20, 5) turned about are 0 to house 0; 4 (35, -17) is 0 to house 1.
        due("19 nonsense is better for one", x.still(NONE), 0);
        OneWordLetters y = Dues.speaking("letter 2;word name 51 51;word name 51 51;word name 50 51;frame name,name;");
        due("19 like worth is no more", y.still(NONE), 4);
        due("19 the last", y.still(3), 4);
    }

    private static void looks(OneWordLetters x, int letter, int h, int n, int... want) {
        for (int what = 0; what < 5; what++) {
            due("20 ahead(" + letter + ", " + h + ", " + n + ", " + what + ")", x.ahead(letter, h, n, what), want[what]);
        }
    }

    private static void ahead() {
        OneWordLetters x = Dues.speaking(SMALL);
        looks(x, 4, 0, 0, 35, -17, 4, 0, NONE);
        looks(x, 4, 0, 1, 35, -17, 4, 0, NONE);
        looks(x, 4, 1, 1, -20, 5, 6, 1, 6);
        looks(x, 4, 1, 2, 35, -17, 4, 0, NONE);
        looks(x, 6, 1, 2, -20, 5, 6, 0, NONE);
        looks(x, 6, 0, 2, -20, 5, 6, 0, NONE);
        looks(x, 6, 0, 1, 35, -17, 4, 1, 4);
        looks(x, 0, 0, 1, 35, -17, 4, 1, 4);
        looks(x, 0, 1, 1, -20, 30, 3, 1, 3);
        // From 12 (name link) house 0 can only send 4; house 1 would send 6, unless house 0 had a move more.
        looks(x, 12, 0, 2, 0, 0, 12, 0, NONE);
        looks(x, 12, 0, 3, 35, -17, 4, 1, 4);
        // Of 4 and 6 it ends with what the house of the last move wants: with eight that is house 1, so house 0 settles.
        looks(x, 0, 0, 7, 35, -17, 4, 1, 4);
        looks(x, 0, 0, 8, 0, 0, 0, 0, NONE);
        due("20 house 2", x.ahead(4, 2, 1, 0), UNKNOWN);
        due("20 house -1", x.ahead(16, -1, 9, 5), UNKNOWN);
        due("20 letter 16", x.ahead(16, 0, 1, 0), OUTSIDE);
        due("20 letter -1", x.ahead(-1, 0, 1, 0), OUTSIDE);
        due("20 n 9", x.ahead(4, 0, 9, 0), OUTSIDE);
        due("20 n -1", x.ahead(4, 0, -1, 0), OUTSIDE);
        due("20 what 5", x.ahead(4, 0, 1, 5), OUTSIDE);
        due("20 what -1", x.ahead(4, 0, 1, -1), OUTSIDE);
        OneWordLetters y = Dues.speaking(NAMES);
        // House 0 wants words 2, house 1 wants words 0; each gets one word, and of like ones the first change.
        looks(y, 4, 0, 1, 5, 3, 5, 1, 5);
        looks(y, 4, 1, 1, 3, 4, 3, 1, 3);
        looks(y, 4, 0, 2, 4, 2, 4, 0, NONE);
        // Sent 5, house 1 settles for 3 or sends 2, of which house 0 makes 8 at last: 4 to house 1.
        looks(y, 4, 0, 3, 6, 4, 8, 3, 5);
        y.law(1);
        looks(y, 5, 0, 1, 5, 3, 5, 0, NONE);
        // By way 1 house 1 makes nonsense of it, by way 0 it cannot.
        OneWordLetters z = Dues.speaking("letter 2;word name 60 40;word deed 60 40;frame name,deed;frame name,name;");
        looks(z, 0, 1, 1, 20, -20, 0, 0, NONE);
        z.way(1);
        looks(z, 0, 1, 1, 0, 0, 1, 1, 1);
        looks(z, 2, 1, 1, 0, 0, 3, 1, 3);
        z.way(0);
        looks(z, 0, 1, 1, 20, -20, 0, 0, NONE);
    }

    private static void first() {
        OneWordLetters x = Dues.speaking(SMALL);
        due("21 none left", x.first(4, 0), 0);
        due("21 one", x.first(4, 1), 55);
        due("21 two", x.first(4, 2), 0);
        due("21 of nonsense", x.first(0, 1), 55);
        due("21 n 9", x.first(4, 9), OUTSIDE);
        due("21 n -1", x.first(4, -1), OUTSIDE);
        due("21 letter 16", x.first(16, 1), OUTSIDE);
        due("21 letter -1", x.first(-1, 1), OUTSIDE);
        due("21 n 8", x.first(3, 8), 0);
        x.law(1);
        due("21 by law 1", x.first(4, 1), 0);
        x.law(0);
        due("21 by law 0 again", x.first(4, 1), 55);
        x.way(1);
        due("21 by way 1", x.first(15, 1), 20);
        due("21 by way 1", x.first(4, 1), 55);
    }

    private static void carriers(OneWordLetters x, int p, int g, int... want) {
        due("22 carrier(" + p + ", " + g + ")", x.carrier(p, g, NONE), want.length);
        for (int i = 0; i < want.length; i++) {
            due("22 carrier(" + p + ", " + g + ", " + i + ")", x.carrier(p, g, i), want[i]);
        }
        due("22 not so many", x.carrier(p, g, want.length), NONE);
    }

    private static void carrier() {
        OneWordLetters x = Dues.speaking(SMALL);
        carriers(x, 4, 6, 6);
        carriers(x, 4, 7, 6);
        carriers(x, 4, 2, 6);
        carriers(x, 4, 3);
        carriers(x, 0, 7, 3, 4);
        x.way(1);
        carriers(x, 4, 6, 5, 6, 7);
        carriers(x, 4, 9, 5, 8);
        x.law(2);
        carriers(x, 4, 9, 5, 8, 1);
        x.law(1);
        carriers(x, 4, 1, 1);
        carriers(x, 4, 4);
        due("22 below", x.carrier(4, 1, -2), NONE);
        due("22 p 16", x.carrier(16, 0, NONE), OUTSIDE);
        due("22 g 16", x.carrier(0, 16, NONE), OUTSIDE);
        due("22 p -1", x.carrier(-1, 0, 0), OUTSIDE);
    }

    private static void guessAndMean() {
        OneWordLetters x = Dues.speaking(SMALL);
        due("23 house 2", x.guess(2), UNKNOWN);
        due("23 house -1", x.guess(-1), UNKNOWN);
        for (int g = 0; g < 6; g++) {
            due("24 not yet", x.mean(g, 0, 0), UNKNOWN);
            due("23 guess " + g, x.guess(g % 2), g);
        }
        due("23 full", x.guess(0), FULL);
        due("23 unknown ahead of full", x.guess(2), UNKNOWN);
        due("23 how many", x.told(11), 6);
        due("24 mean", x.mean(5, 3, 49), 0);
        due("24 mean", x.mean(5, 3, -50), 49);
        due("24 50", x.mean(5, 3, 50), OUTSIDE);
        due("24 -51", x.mean(5, 3, -51), OUTSIDE);
        due("24 word 4", x.mean(5, 4, 50), UNKNOWN);
        due("24 word -1", x.mean(5, -1, 0), UNKNOWN);
        due("24 guess 6", x.mean(6, 0, 0), UNKNOWN);
        due("24 guess -1", x.mean(-1, 0, 0), UNKNOWN);
        due("24 unchanged", x.mean(5, 3, 0), -50);
        due("24 of another", x.mean(4, 3, 0), 0);
        x.mean(0, 0, 7);
        x.tear();
        x.guess(1);
        due("23 all words worth 0", x.mean(0, 0, 0), 0);
    }

    private static void fits() {
        OneWordLetters x = Dues.speaking(SMALL);
        x.guess(0);
        due("25 nothing sent", x.fits(0), 1);
        x.begin(4, 0);
        x.send(6);
        // By a guess of 0 the letter as it came has the pair's 5 more than what was sent.
        due("25 the pair as told", x.fits(0), 0);
        x.mean(0, 0, -5);
        due("25 no less is enough", x.fits(0), 1);
        x.mean(0, 0, -4);
        due("25 less by one", x.fits(0), 0);
        x.mean(0, 0, 0);
        x.mean(0, 1, -3);
        due("25 the turn as told", x.fits(0), 1);
        x.mean(0, 1, -2);
        due("25 the turn as told", x.fits(0), 0);
        x.guess(1);
        due("25 nothing of house 1", x.fits(1), 1);
        x.send(4);
        due("25 pair to house 1", x.fits(1), 0);
        x.mean(1, 2, -2);
        due("25 of house 1", x.fits(1), 1);
        x.way(1);
        // Nonsense is worth 0, and name deed -2 then.
        due("25 nonsense is worth 0", x.fits(1), 0);
        x.mean(1, 0, 2);
        due("25 nonsense is worth 0", x.fits(1), 1);
        due("25 guess 2", x.fits(2), UNKNOWN);
        due("25 guess -1", x.fits(-1), UNKNOWN);
        OneWordLetters y = Dues.speaking(NAMES);
        y.begin(4, 0);
        y.send(5);
        y.guess(0);
        y.mean(0, 2, 1);
        y.mean(0, 0, 2);
        due("25 another change is better", y.fits(0), 0);
        y.law(1);
        due("25 by the law that is", y.fits(0), 1);
    }

    private static void writeTearJudge() {
        OneWordLetters x = Dues.speaking(SMALL);
        due("28 empty", x.judge(), NONE);
        due("26 first", x.write(5), 1);
        due("28 one", x.judge(), NONE);
        due("26 letter 16", x.write(16), OUTSIDE);
        due("26 letter -1", x.write(-1), OUTSIDE);
        x.write(4);
        x.write(6);
        due("28 right", x.judge(), NONE);
        x.write(6);
        due("28 as it came is no change", x.judge(), 3);
        x.write(3);
        due("28 the first", x.judge(), 3);
        x.law(1);
        due("28 by law 1", x.judge(), 1);
        x.guess(0);
        x.guess(0);
        due("27 both", x.tear(), 7);
        due("27 book", x.told(12), 0);
        due("27 guesses", x.told(11), 0);
        due("27 nothing", x.tear(), 0);
        for (int k = 1; k <= 30; k++) {
            due("26 write", x.write(3), k);
        }
        due("26 full", x.write(3), FULL);
        due("26 outside ahead of full", x.write(16), OUTSIDE);
        due("26 how many", x.told(12), 30);
        x.tear();
        x.law(0);
        x.write(0);
        x.write(1);
        due("28 nonsense", x.judge(), 1);
        x.way(1);
        due("28 nonsense by way 1", x.judge(), NONE);
    }

    private static void drift() {
        OneWordLetters x = Dues.speaking(SMALL);
        x.begin(4, 0);
        // Seeds from 0: 12345, 1406932606, 654583775, 1449466924, 229283573, 1109335178;
        // by 65536: 0, 21468, 9988, 22117, 3498, 16927.
        due("29 draw 0: the one change", x.drift(1), 6);
        due("29 turn", x.told(8), 1);
        due("30 seed behind two draws", x.seed(1406932606), 1406932606);
        due("29 draw 0 again", x.drift(1), 4);
        due("29 log", x.told(10), 2);
        due("29 log", x.log(1, 0), 1);
        due("29 draw 2: it settles", x.drift(1), 4);
        due("29 the other's turn", x.told(8), 1);
        due("29 not settled", x.told(9), 0);
        due("29 had 0", x.had(0), 35);
        due("29 had 1", x.had(1), -17);
        due("29 nothing sent", x.told(10), 2);
        due("30 seed behind one draw", x.seed(229283573), 229283573);
        due("29 draw 3: house 1 settles", x.drift(1), 4);
        due("29 had 0", x.had(0), 70);
        due("29 had 1", x.had(1), -34);
        due("29 house 0", x.told(8), 0);
        due("30 seed", x.seed(0), 1109335178);
        OneWordLetters y = Dues.speaking(SMALL);
        y.begin(4, 0);
        due("29 four at once", y.drift(4), 4);
        due("29 four at once: had", y.had(1), -34);
        due("29 four at once: seed", y.seed(0), 1109335178);
    }

    private static void driftEdges() {
        OneWordLetters x = Dues.speaking(SMALL);
        due("29 n 0", x.drift(0), OUTSIDE);
        due("29 n 41", x.drift(41), OUTSIDE);
        due("29 n -1", x.drift(-1), OUTSIDE);
        x.law(1);
        x.begin(4, 0);
        due("29 no changes: nothing", x.drift(1), 4);
        due("29 the same turn", x.told(8), 0);
        due("29 nothing had", x.had(0), 0);
        due("29 one draw", x.seed(0), 12345);
        x.settle();
        due("29 settled", x.drift(1), NOT);
        due("29 outside ahead of not", x.drift(0), OUTSIDE);
        due("29 refused: seed", x.seed(0), 0);
        OneWordLetters y = Dues.speaking(NAMES);
        y.seed(3);
        for (int k = 0; k < 12; k++) {
            y.drift(40);
        }
        due("29 the log has 60 at most", y.told(10), 60);
        due("29 it goes on", y.drift(40) == NOT ? 0 : 1, 1);
        due("29 sending is full", y.send(y.change(y.told(7), 0)), FULL);
    }

    private static void seed() {
        OneWordLetters x = new OneWordLetters();
        due("30 at first", x.seed(2147483647), 0);
        due("30 below", x.seed(-1), OUTSIDE);
        due("30 far below", x.seed(Integer.MIN_VALUE), OUTSIDE);
        due("30 what it was", x.seed(0), 2147483647);
        Dues.feedText(x, SMALL);
        x.tongue();
        x.seed(2147483647);
        x.law(1);
        x.drift(1);
        // 2 to the 31 less 1 becomes 12345 less 1103515245, left over by 2 to the 31: 1043980748; by 65536 15929, of 4: 1.
        due("30 largest seed", x.seed(0), 1043980748);
    }

    private static void images() {
        OneWordLetters x = Dues.speaking(SMALL);
        due("31 image 2", x.keep(2), UNKNOWN);
        due("31 image -1", x.keep(-1), UNKNOWN);
        due("32 image 2", x.goBack(2), UNKNOWN);
        due("32 image -1", x.goBack(-1), UNKNOWN);
        due("32 not kept", x.goBack(0), NOT);
        due("31 keep(1)", x.keep(1), 1);
        due("32 the other one was not", x.goBack(0), NOT);
        useAll(x);
        due("31 keep(0)", x.keep(0), 1);
        x.law(0);
        x.way(0);
        x.begin(6, 0);
        x.send(4);
        x.settle();
        x.seed(5);
        x.write(3);
        x.guess(0);
        due("32 goBack(0)", x.goBack(0), 1);
        int[] want = {2, 4, 3, 1, 0, 2, 1, 6, 1, 1, 1, 2, 2, 3};
        for (int what = 0; what < 14; what++) {
            due("32 told(" + what + ")", x.told(what), want[what]);
        }
        due("32 had", x.had(0), -20);
        due("32 had", x.had(1), 5);
        due("32 log", x.log(0, 2), 6);
        due("32 log", x.log(1, 2), NONE);
        due("32 seed", x.seed(9), 77);
        due("32 goBack(1)", x.goBack(1), 1);
        due("32 letter", x.told(7), 0);
        due("32 law", x.told(5), 0);
        due("32 log", x.told(10), 0);
        due("32 seed", x.seed(9), 0);
        x.begin(4, 0);
        x.send(6);
        due("32 an image does not change with what is so", x.goBack(0), 1);
        due("32 again", x.log(0, 1), 4);
        x.law(0);
        x.begin(4, 0);
        for (int k = 1; k < 60; k++) {
            x.send(k % 2 == 0 ? 4 : 6);
        }
        x.keep(1);
        x.goBack(0);
        x.law(0);
        x.begin(6, 0);
        for (int k = 1; k < 60; k++) {
            x.send(k % 2 == 0 ? 6 : 4);
        }
        x.goBack(1);
        due("32 a whole log", x.told(10), 60);
        for (int k = 1; k < 60; k++) {
            due("32 a whole log: house", x.log(k, 0), 1 - k % 2);
            due("32 a whole log: from", x.log(k, 1), k % 2 == 0 ? 6 : 4);
            due("32 a whole log: to", x.log(k, 2), k % 2 == 0 ? 4 : 6);
        }
        x.goBack(0);
        due("31 anew", x.keep(1), 1);
        due("32 anew", x.goBack(1), 1);
        due("32 anew", x.told(10), 1);
    }
}
