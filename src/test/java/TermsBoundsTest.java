import java.math.BigInteger;
import java.util.ArrayList;
import java.util.List;
import java.util.Set;
import java.util.TreeSet;

/** The boundary cases that parts 2 and 3 of the terms name: the least and the most, like ones, none, full, wrapped around. */
public final class TermsBoundsTest {
    private static final int NONE = -1;
    private static final int NOT = -1000000003;
    private static final int FULL = -1000000004;
    private static final int MOST_SEED = 2147483647;

    private static final Dues DUES = new Dues();

    public static void main(String[] args) {
        leastAndMostWorth();
        turnsAndPairsAtTheEdges();
        fewestAndMostChanges();
        orderOfChanges();
        correspondenceAtFirst();
        settledUntilBegun();
        hadAddsUp();
        sixtySent();
        roomInTheLogAgain();
        farthestLetters();
        throughLettersThatStand();
        stillOnes();
        noMovesLeft();
        eightMovesLeft();
        likeOnes();
        nonsenseByWayOne();
        whoGains();
        carrierChangesOneOrNone();
        guessThatJustFits();
        guessOfOneHouse();
        thirtyWritten();
        seedWrapsAround();
        drawsOfChanges();
        driftByOneOrByForty();
        driftBehindSixty();
        driftLooksTwoMovesAhead();
        driftGoesOnBehindSettling();
        imagesKeepTheCourseAlone();
        imagesStayAsKept();
        foundUnderOtherRules();
        foundInALargerTongue();
        lastOf512Calls();
        DUES.close("TermsBoundsTest");
    }

    private static void due(String what, long got, long want) {
        DUES.due(what, got, want);
    }

    private static void told(String when, OneWordLetters x, int letter, int turn, int settled, int sent) {
        due(when + ": the letter", x.told(7), letter);
        due(when + ": the turn", x.told(8), turn);
        due(when + ": settled", x.told(9), settled);
        due(when + ": log", x.told(10), sent);
    }

    private static void leastAndMostWorth() {
        OneWordLetters x = Dues.speaking("letter 4;word name 0 99;frame name,name,name,name;pair 0 0 0 99;");
        due("9 least", x.worth(0, 0), -350);
        due("9 most", x.worth(1, 0), 343);
        // The first turn is worth -50, the three behind turns 50 each, the pairs as told.
        OneWordLetters y = Dues.speaking("letter 4;word turn 0 99;frame turn,turn,turn,turn;pair 0 0 99 0;");
        due("9 most with turns", y.worth(0, 0), -50 + 150 + 147);
        due("9 least with turns", y.worth(1, 0), 49 - 147 - 150);
        OneWordLetters z = Dues.speaking("letter 2;word name 0 99;frame name,deed;pair 0 0 99 99;");
        due("9 nonsense", z.worth(0, 0), 0);
        due("9 nonsense", z.worth(1, 0), 0);
        due("5 none stands", z.told(13), 0);
    }

    private static void turnsAndPairsAtTheEdges() {
        String words = "letter 3;word turn 51 50;word name 60 50;word deed 80 50;";
        // name deed turn, 1 2 0: the turn stands last and turns nothing, nor the first word.
        due("9 a turn at the end", Dues.speaking(words + "frame name,deed,turn;").worth(0, 7), 41);
        // turn name deed, 0 1 2: only the next one is turned.
        due("9 a turn at the beginning", Dues.speaking(words + "frame turn,name,deed;").worth(0, 21), 1 - 10 + 30);
        // name turn deed, 1 0 2.
        due("9 a turn between", Dues.speaking(words + "frame name,turn,deed;").worth(0, 19), 10 + 1 - 30);
        String all = words + "frame turn,name,deed;";
        due("9 the first two", Dues.speaking(all + "pair 0 1 57 50;").worth(0, 21), 28);
        due("9 the last two", Dues.speaking(all + "pair 1 2 57 50;").worth(0, 21), 28);
        due("9 the last and the first", Dues.speaking(all + "pair 2 0 57 50;").worth(0, 21), 21);
        due("9 the first and the last", Dues.speaking(all + "pair 0 2 57 50;").worth(0, 21), 21);
        due("9 the other way about", Dues.speaking(all + "pair 1 0 57 50;").worth(0, 21), 21);
        due("9 one with itself", Dues.speaking(all + "pair 1 1 57 50;").worth(0, 21), 21);
    }

    private static void fewestAndMostChanges() {
        OneWordLetters one = Dues.speaking("letter 4;word name 51 51;frame name,name,name,name;");
        OneWordLetters most = States.in(States::eightNames);
        for (int law = 0; law < 3; law++) {
            one.law(law);
            most.law(law);
            due("12 one word", one.change(0, NONE), 0);
            due("12 one word", one.change(0, 0), NONE);
            due("12 words alike, law " + law, most.change(4095, NONE), law == 1 ? 0 : 28);
            // Words 4 3 2 1: three turns about.
            due("12 words unlike, law " + law, most.change(4 + 8 * 3 + 64 * 2 + 512, NONE), law == 0 ? 28 : law == 1 ? 3 : 31);
            // Words 1 1 2 2: one turn about.
            due("12 two and two alike, law " + law, most.change(1 + 8 + 128 + 1024, NONE), law == 0 ? 28 : law == 1 ? 1 : 29);
        }
        due("12 the last of 31", most.change(4 + 8 * 3 + 64 * 2 + 512, 30), 4 + 8 * 3 + 64 + 512 * 2);
        due("12 behind 31", most.change(4 + 8 * 3 + 64 * 2 + 512, 31), NONE);
        OneWordLetters none = Dues.speaking("letter 2;word name 51 51;word deed 51 51;");
        for (int law = 0; law < 3; law++) {
            none.law(law);
            none.way(0);
            due("12 nothing stands", none.change(1, NONE), 0);
            none.way(1);
            due("12 nonsense may be sent", none.change(1, NONE), law == 0 ? 2 : law == 1 ? 1 : 3);
        }
    }

    private static void orderOfChanges() {
        OneWordLetters x = Dues.speaking("letter 3;word name 51 51;word name 51 51;word name 51 51;frame name,name,name;");
        x.law(2);
        // Words 1 0 2, by place and by word; then 0 1 2 and 1 2 0.
        int[] want = {18, 20, 22, 25, 1, 10, 21, 7};
        due("12 how many", x.change(19, NONE), 8);
        for (int i = 0; i < 8; i++) {
            due("12 change " + i, x.change(19, i), want[i]);
        }
    }

    private static void correspondenceAtFirst() {
        OneWordLetters x = States.in(States::small);
        told("3 at first", x, 0, 0, 0, 0);
        due("10 law at first", x.told(5), 0);
        due("11 way at first", x.told(6), 0);
        due("30 seed at first", x.seed(0), 0);
        due("16 had at first", x.had(0), 0);
        due("16 had at first", x.had(1), 0);
        due("14 from letter 0 by house 0", x.send(4), 1);
        due("17 house", x.log(0, 0), 0);
        due("17 from", x.log(0, 1), 0);
        due("17 to", x.log(0, 2), 4);
    }

    private static void settledUntilBegun() {
        OneWordLetters x = States.in(States::small);
        x.begin(4, 1);
        due("15 settle", x.settle(), -17);
        told("15 settled", x, 4, 1, 1, 0);
        due("15 again", x.settle(), NOT);
        due("14 settled", x.send(6), NOT);
        due("29 settled", x.drift(1), NOT);
        due("16 once", x.had(1), -17);
        due("13 begin", x.begin(4, 1), 4);
        told("13 begun", x, 4, 1, 0, 0);
        due("14 begun", x.send(6), 0);
        due("15 by house 0", x.settle(), -20);
        due("13 begin where it is", x.begin(6, 0), 6);
        due("15 once more", x.settle(), -20);
        due("16 had", x.had(0), 35 - 20 - 20);
        due("16 had", x.had(1), -17 + 5 + 5);
    }

    private static void hadAddsUp() {
        OneWordLetters x = Dues.speaking("letter 4;word name 0 99;frame name,name,name,name;pair 0 0 0 99;");
        for (int k = 1; k <= 200; k++) {
            x.begin(0, k % 2);
            due("15 settle " + k, x.settle(), k % 2 == 0 ? -350 : 343);
        }
        due("16 had 0", x.had(0), -70000);
        due("16 had 1", x.had(1), 68600);
    }

    private static void sendToAndFro(OneWordLetters x, int times) {
        int letter = x.told(7);
        for (int k = 0; k < times; k++) {
            letter = letter == 4 ? 6 : 4;
            x.send(letter);
        }
    }

    private static void sixtySent() {
        OneWordLetters x = States.in(States::small);
        x.begin(4, 0);
        sendToAndFro(x, 59);
        told("14 59 sent", x, 6, 1, 0, 59);
        due("17 the 60th is not there", x.log(59, 0), NONE);
        due("14 the 60th", x.send(4), 0);
        told("14 60 sent", x, 4, 0, 0, 60);
        due("14 the 61st", x.send(6), FULL);
        told("14 61st refused", x, 4, 0, 0, 60);
        for (int i = 0; i < 60; i++) {
            due("17 house of " + i, x.log(i, 0), i % 2);
            due("17 from of " + i, x.log(i, 1), i % 2 == 0 ? 4 : 6);
            due("17 to of " + i, x.log(i, 2), i % 2 == 0 ? 6 : 4);
        }
        due("17 the 61st", x.log(60, 0), NONE);
        due("15 to settle needs no room", x.settle(), 35);
    }

    private static void roomInTheLogAgain() {
        OneWordLetters x = States.in(States::small);
        x.begin(4, 0);
        sendToAndFro(x, 59);
        x.keep(0);
        sendToAndFro(x, 1);
        x.keep(1);
        due("13 begin leaves the log", x.begin(4, 0), 4);
        due("14 full", x.send(6), FULL);
        x.goBack(0);
        told("32 back to 59", x, 6, 1, 0, 59);
        due("14 the 60th again", x.send(4), 0);
        due("14 full again", x.send(6), FULL);
        x.goBack(1);
        due("14 full by image 1", x.send(6), FULL);
        States.small(x);
        x.begin(4, 0);
        due("14 room behind a tongue", x.send(6), 1);
        told("14 room behind a tongue", x, 6, 1, 0, 1);
    }

    private static void farthestLetters() {
        OneWordLetters x = States.in(States::eightNames);
        due("18 none", x.fewest(4095, 4095, false), 0);
        due("18 one", x.fewest(4095, 4094, false), 1);
        due("18 all four words", x.fewest(0, 4095, false), 4);
        // 0 1 2 3 and 3 2 1 0: each two are turned about once.
        int rising = 8 + 64 * 2 + 512 * 3;
        int falling = 3 + 8 * 2 + 64;
        due("18 by other words", x.fewest(rising, falling, true), 4);
        x.law(1);
        due("18 by turns about", x.fewest(rising, falling, true), 6);
        due("18 other words by law 1", x.fewest(rising, rising + 512, true), NONE);
        due("18 to itself by law 1", x.fewest(rising, rising, true), 0);
        x.law(2);
        due("18 by either: two turns about", x.fewest(rising, 1 + 8 * 0 + 64 * 3 + 512 * 2, true), 2);
        due("18 by either: the first and the last word", x.fewest(rising, falling, true), 3);
    }

    private static void throughLettersThatStand() {
        OneWordLetters x = States.in(States::small);
        for (int way = 0; way < 2; way++) {
            x.way(way);
            due("18 nonsense to itself", x.fewest(15, 15, false), 0);
            due("18 next to it, both nonsense", x.fewest(15, 14, false), 1);
            due("18 through 3 that stands", x.fewest(15, 0, false), 2);
            due("18 both ends nonsense, nothing between", x.fewest(15, 5, false), NONE);
            due("18 both ends nonsense, through any", x.fewest(15, 5, true), 2);
            due("18 out of what stands", x.fewest(6, 0, false), 2);
            due("18 into what stands", x.fewest(0, 6, false), 2);
        }
    }

    private static void stillOnes() {
        OneWordLetters all = States.in(States::eightNames);
        due("19 of like worth all are still", all.still(NONE), 4096);
        due("19 the first", all.still(0), 0);
        due("19 the last", all.still(4095), 4095);
        due("19 behind the last", all.still(4096), NONE);
        OneWordLetters none = Dues.speaking("letter 2;word name 51 51;word deed 51 51;");
        due("19 nonsense is not still", none.still(NONE), 0);
        due("19 nonsense is not still", none.still(0), NONE);
        OneWordLetters one = Dues.speaking("letter 2;word name 0 0;frame name,name;");
        due("19 no changes", one.still(NONE), 1);
        OneWordLetters below = Dues.speaking("letter 2;word name 49 50;word deed 50 50;frame name,name;");
        due("19 nonsense may not be sent", below.still(NONE), 1);
        below.way(1);
        due("19 nonsense has more worth", below.still(NONE), 0);
        OneWordLetters zero = Dues.speaking("letter 2;word name 50 50;word deed 50 50;frame name,name;");
        zero.way(1);
        due("19 nonsense has like worth", zero.still(NONE), 1);
        OneWordLetters other = Dues.speaking("letter 2;word name 50 49;word deed 50 50;frame name,name;");
        other.way(1);
        due("19 nonsense has more worth to house 1", other.still(NONE), 0);
    }

    private static void looks(String what, OneWordLetters x, int letter, int h, int n, int... want) {
        for (int k = 0; k < 5; k++) {
            due("20 " + what + " ahead(" + letter + ", " + h + ", " + n + ", " + k + ")", x.ahead(letter, h, n, k), want[k]);
        }
    }

    private static void noMovesLeft() {
        OneWordLetters x = States.in(States::small);
        looks("none left", x, 4, 1, 0, 35, -17, 4, 0, NONE);
        looks("none left, nonsense", x, 15, 0, 0, 0, 0, 15, 0, NONE);
        looks("one left", x, 4, 1, 1, -20, 5, 6, 1, 6);
        looks("no changes", x, 3, 0, 8, -20, 30, 3, 0, NONE);
        OneWordLetters one = Dues.speaking("letter 2;word name 0 99;frame name,name;");
        looks("one letter alone", one, 0, 0, 8, -100, 98, 0, 0, NONE);
    }

    /** In this tongue all eight are sent; each step must be what the one before it told. */
    private static void eightMovesLeft() {
        OneWordLetters x = Dues.speaking("letter 4;word name 44 46;word turn 54 51;word deed 41 51;word turn 47 40;"
            + "frame turn,name,deed,turn;frame link,turn,deed,name;frame deed,turn,name,deed;frame deed,deed,link,turn;"
            + "frame link,turn,name,deed;");
        x.law(2);
        due("20 eight are sent", x.ahead(177, 0, 8, 3), 8);
        int end = x.ahead(177, 0, 8, 2);
        int letter = 177;
        for (int n = 8; n > 0; n--) {
            int h = n % 2;
            due("20 the end with " + n, x.ahead(letter, h, n, 2), end);
            due("20 sent with " + n, x.ahead(letter, h, n, 3), n);
            due("20 worth with " + n, x.ahead(letter, h, n, h), x.worth(h, end));
            letter = x.ahead(letter, h, n, 4);
        }
        due("20 there in the end", letter, end);
        due("20 none left", x.ahead(letter, 0, 0, 4), NONE);
    }

    private static void likeOnes() {
        // All are worth the same: it settles at once, whatever is left.
        OneWordLetters x = States.in(States::eightNames);
        for (int n = 0; n <= 3; n++) {
            looks("of like ones settling", x, 9, n % 2, n, 4, -4, 9, 0, NONE);
        }
        // Words 1 and 2 are worth more than 0 and the same: word 1 at the first place comes first.
        OneWordLetters y = Dues.speaking("letter 2;word name 50 50;word name 51 50;word name 51 50;frame name,name;");
        looks("the first change", y, 0, 0, 1, 1, 0, 1, 1, 1);
        // From 1 the second place alone gains; its word 1 (4) comes ahead of word 2 (7).
        looks("the first change", y, 1, 0, 1, 2, 0, 4, 1, 4);
        looks("nothing more to gain", y, 8, 0, 1, 2, 0, 8, 0, NONE);
        // House 1 has nothing to gain or lose and settles.
        looks("like ones for the other", y, 0, 1, 8, 0, 0, 0, 0, NONE);
        // From 0 (name name) 3 (name, word 1) comes first; were the next move its own too, it would end as well as 6
        // (name, word 2). But the other one then puts word 1 for the name: 3 ends as 4, 6 as 7, which is worth more.
        String frames = "frame name,name;frame name,deed;frame deed,deed;";
        OneWordLetters z = Dues.speaking("letter 2;word name 49 50;word deed 49 52;word deed 50 52;" + frames);
        looks("like ones by the other's move", z, 0, 0, 2, -1, 4, 7, 2, 6);
        OneWordLetters w = Dues.speaking("letter 2;word name 50 49;word deed 52 49;word deed 52 50;" + frames);
        looks("like ones by the other's move", w, 0, 1, 2, 4, -1, 7, 2, 6);
    }

    private static void nonsenseByWayOne() {
        OneWordLetters x = Dues.speaking("letter 2;word name 60 40;word deed 60 40;frame name,name;");
        looks("by way 0", x, 0, 1, 1, 20, -20, 0, 0, NONE);
        due("21 by way 0", x.first(0, 1), 0);
        x.way(1);
        looks("by way 1", x, 0, 1, 1, 0, 0, 1, 1, 1);
        due("21 by way 1", x.first(0, 1), 20);
        looks("by way 1, like ones", x, 1, 1, 1, 0, 0, 1, 0, NONE);
        x.way(0);
        looks("by way 0 again", x, 0, 1, 1, 20, -20, 0, 0, NONE);
        due("21 by way 0 again", x.first(0, 1), 0);
        OneWordLetters y = Dues.speaking("letter 2;word name 60 40;word deed 60 40;frame name,name;");
        y.way(1);
        due("21 by way 1, asked for the first time", y.first(0, 1), 20);
        OneWordLetters z = Dues.speaking("letter 2;word name 60 40;word deed 60 40;frame name,name;");
        z.begin(3, 0);
        z.seed(1);
        due("29 by way 0 nothing that stands is next to it", z.drift(1), 3);
        z.way(1);
        z.begin(0, 1);
        z.seed(1);
        // With two moves left house 0 would make sense of it again.
        due("29 by way 1", z.drift(1), 0);
        due("20 by way 1", z.ahead(0, 1, 2, 4), NONE);
        OneWordLetters w = Dues.speaking("letter 2;word name 60 60;word deed 60 60;frame deed,name;frame deed,deed;");
        // By law 1 turned about 2 (name deed) becomes 1 (deed name), worth 20 to both; by law 0 it becomes 3.
        w.law(1);
        w.begin(2, 0);
        w.seed(1);
        due("29 by law 1", w.drift(1), 1);
        w.law(0);
        w.begin(2, 0);
        w.seed(1);
        due("29 by law 0", w.drift(1), 3);
    }

    private static void whoGains() {
        OneWordLetters x = States.in(States::small);
        for (int letter = 0; letter < 16; letter++) {
            due("21 none left", x.first(letter, 0), 0);
            due("21 eight left", x.first(letter, 8), x.ahead(letter, 0, 8, 0) - x.ahead(letter, 1, 8, 0));
        }
        due("21 gains", x.first(4, 1), 55);
        OneWordLetters y = Dues.speaking("letter 2;word name 0 99;word name 99 0;frame name,name;");
        due("21 most of one", y.first(0, 1), 99);
        due("21 most of one", y.first(3, 1), 99);
        due("21 most of one", y.first(1, 1), 198);
    }

    private static void carriers(String what, OneWordLetters x, int p, int g, int... want) {
        due("22 " + what, x.carrier(p, g, NONE), want.length);
        for (int i = 0; i < want.length; i++) {
            due("22 " + what + " " + i, x.carrier(p, g, i), want[i]);
        }
        due("22 " + what + " behind the last", x.carrier(p, g, want.length), NONE);
    }

    private static void carrierChangesOneOrNone() {
        OneWordLetters x = States.in(States::small);
        carriers("none changed", x, 4, 6, 6);
        carriers("one changed, into nonsense", x, 4, 14, 6);
        carriers("one changed, back to what came", x, 4, 4, 6);
        carriers("two changed", x, 4, 8);
        carriers("no changes", x, 3, 3);
        x.way(1);
        carriers("p itself was not sent", x, 4, 4, 5, 6, 7, 0, 8, 12);
        x.law(1);
        carriers("turned about, none changed", x, 4, 1, 1);
        carriers("turned about, one changed", x, 4, 0, 1);
        carriers("turned about, two changed", x, 4, 6);
        OneWordLetters y = States.in(States::eightNames);
        // From 0 0 0 0: what came has two words 1, so one of them was sent.
        carriers("one word of two", y, 0, 9, 1, 8);
        carriers("three words", y, 0, 73);
        due("22 all can have been sent", y.carrier(0, 0, NONE), 28);
        due("22 the last of them", y.carrier(0, 0, 27), 7 * 512);
    }

    private static void guessThatJustFits() {
        OneWordLetters x = States.in(States::small);
        x.begin(4, 0);
        x.send(6);
        due("23 the first", x.guess(0), 0);
        // name deed is worth the pair's 5 and the name; turn deed the turn less the deed.
        x.mean(0, 2, 4);
        due("25 less by one than as it came", x.fits(0), 0);
        x.mean(0, 2, 5);
        due("25 like as it came", x.fits(0), 1);
        x.mean(0, 2, 6);
        due("25 more by one", x.fits(0), 1);
        x.way(1);
        x.mean(0, 0, -50);
        x.mean(0, 2, -1);
        due("25 less by one than nonsense", x.fits(0), 0);
        x.mean(0, 2, 0);
        due("25 like nonsense", x.fits(0), 1);
        // 7 (link deed) and 12 (name link) are nonsense: whatever a link is worth, they are worth 0.
        x.mean(0, 3, 49);
        due("25 nonsense is worth 0 by a guess too", x.fits(0), 1);
        x.begin(6, 0);
        x.send(7);
        due("25 nonsense that was sent is worth 0 too", x.fits(0), 1);
        x.mean(0, 1, -1);
        due("25 less by one than as it came", x.fits(0), 0);
        OneWordLetters y = Dues.speaking("letter 2;word name 50 50;word name 50 50;word name 50 50;frame name,name;");
        y.begin(0, 0);
        y.send(1);
        y.guess(0);
        y.mean(0, 1, 7);
        y.mean(0, 2, 7);
        due("25 like another change", y.fits(0), 1);
        y.mean(0, 2, 8);
        due("25 less by one than another change", y.fits(0), 0);
        y.mean(0, 1, 49);
        y.mean(0, 2, -50);
        due("25 most and least", y.fits(0), 1);
        // Of the changes of 0 (1, 2, 3, 6) the first one is the better one, then the last one.
        OneWordLetters z = Dues.speaking("letter 2;word name 50 50;word name 50 50;word name 50 50;frame name,name;pair 1 0 51 50;");
        z.begin(0, 0);
        z.send(2);
        z.guess(0);
        due("25 less than the first change", z.fits(0), 0);
        z.mean(0, 0, -1);
        due("25 like others, less than the first change", z.fits(0), 0);
        OneWordLetters w = Dues.speaking("letter 2;word name 50 50;word name 50 50;word name 50 50;frame name,name;pair 0 2 51 50;");
        w.begin(0, 0);
        w.send(2);
        w.guess(0);
        due("25 less than the last change", w.fits(0), 0);
    }

    private static void guessOfOneHouse() {
        OneWordLetters x = States.in(States::small);
        x.guess(0);
        x.guess(1);
        due("25 nothing sent", x.fits(0), 1);
        due("25 nothing sent", x.fits(1), 1);
        x.begin(4, 0);
        x.send(6);
        due("25 house 0 sent it", x.fits(0), 0);
        due("25 house 1 sent nothing", x.fits(1), 1);
        x.begin(4, 1);
        x.send(6);
        // The pair is worth -2 to house 1: by a guess of 0 sending it away is a gain.
        due("25 house 1 sent it", x.fits(1), 1);
        x.mean(1, 0, 3);
        due("25 house 1 sent it", x.fits(1), 0);
        x.mean(1, 0, 2);
        due("25 house 1 sent it", x.fits(1), 1);
        States.small(x);
        x.begin(6, 1);
        sendToAndFro(x, 60);
        due("14 the log is full", x.told(10), 60);
        x.guess(1);
        x.mean(0, 0, 3);
        due("25 what the log has: house 1 sends 6 to 4 alone", x.fits(0), 1);
        // Behind 60 house 1 sends 4 to 6 by a draw, which is not kept and so not asked.
        x.begin(4, 1);
        x.seed(0);
        due("29 sent behind 60", x.drift(1), 6);
        due("25 what is not kept does not matter", x.fits(0), 1);
    }

    private static void thirtyWritten() {
        OneWordLetters x = States.in(States::small);
        due("28 none", x.judge(), NONE);
        due("26 the first", x.write(15), 1);
        due("28 one", x.judge(), NONE);
        due("26 the second", x.write(15), 2);
        due("28 the second is wrong", x.judge(), 1);
        due("27 two", x.tear(), 2);
        for (int k = 0; k < 29; k++) {
            due("26 write " + k, x.write(k % 2 == 0 ? 4 : 6), k + 1);
        }
        due("28 29 right", x.judge(), NONE);
        due("26 the 30th", x.write(4), 30);
        due("28 the 30th is wrong", x.judge(), 29);
        due("26 the 31st", x.write(6), FULL);
        due("28 as before", x.judge(), 29);
        due("27 thirty", x.tear(), 30);
        due("27 nothing", x.tear(), 0);
        due("28 nothing", x.judge(), NONE);
        for (int k = 0; k < 30; k++) {
            x.write(k % 2 == 0 ? 4 : 6);
        }
        due("28 thirty right", x.judge(), NONE);
    }

    private static long next(long seed) {
        BigInteger b = BigInteger.valueOf(seed).multiply(BigInteger.valueOf(1103515245L)).add(BigInteger.valueOf(12345L));
        return b.mod(BigInteger.ONE.shiftLeft(31)).longValueExact();
    }

    /** Where nothing can be sent, each time is one draw, and the seed alone tells it. */
    private static void seedWrapsAround() {
        int[] seeds = {0, 1, 2, 3, 65535, 65536, 1073741823, 1073741824, 1610612736, MOST_SEED - 1, MOST_SEED};
        OneWordLetters x = Dues.speaking("letter 2;word name 51 52;frame name,name;");
        for (int seed : seeds) {
            x.seed(seed);
            long want = seed;
            for (int k = 0; k < 5; k++) {
                want = next(want);
                due("29 the letter", x.drift(1), 0);
                due("30 seed from " + seed + ", draw " + k, x.seed(0), want);
                x.seed((int) want);
            }
        }
    }

    /** By a draw of 4 that is 0, the next draw is one of all changes, the first and the last among them. */
    private static void drawsOfChanges() {
        OneWordLetters x = States.in(States::eightNames);
        x.law(2);
        int letter = 4 + 8 * 3 + 64 * 2 + 512;
        Set<Long> drawn = new TreeSet<>();
        int calls = 0;
        for (int seed = 0; drawn.size() < 31 && seed < 100000; seed++) {
            long first = next(seed);
            long second = next(first);
            if (first / 65536 % 4 != 0 || !drawn.add(second / 65536 % 31)) {
                continue;
            }
            x.begin(letter, seed % 2);
            x.seed(seed);
            due("29 draw of 31 from seed " + seed, x.drift(1), x.change(letter, (int) (second / 65536 % 31)));
            due("30 seed behind two draws", x.seed(0), second);
            due("29 the other's turn", x.told(8), 1 - seed % 2);
            calls += 6;
        }
        due("29 all 31 were drawn", drawn.size(), 31);
        DUES.holds("calls of one object: " + calls, calls < 480);
    }

    private static void driftByOneOrByForty() {
        for (int seed : new int[] {0, 7, 123456789, MOST_SEED}) {
            OneWordLetters x = States.in(States::small);
            OneWordLetters y = States.in(States::small);
            x.seed(seed);
            y.seed(seed);
            int last = 0;
            for (int k = 0; k < 40; k++) {
                last = x.drift(1);
                due("29 the letter then", x.told(7), last);
                due("29 not settled", x.told(9), 0);
            }
            due("29 forty at once", y.drift(40), last);
            DUES.same("29 forty at once", Probe.of(y), Probe.of(x));
        }
    }

    /** From letter 4 and seed 0 the first two draws send 6 and then 4 again. */
    private static void driftBehindSixty() {
        OneWordLetters x = States.in(States::small);
        x.begin(4, 0);
        sendToAndFro(x, 58);
        x.begin(4, 1);
        x.seed(0);
        x.keep(0);
        due("29 two more", x.drift(2), 4);
        told("29 60 kept", x, 4, 1, 0, 60);
        due("17 the 59th", x.log(58, 0), 1);
        due("17 the 60th", x.log(59, 0), 0);
        due("17 the 60th", x.log(59, 1), 6);
        due("17 the 60th", x.log(59, 2), 4);
        x.goBack(0);
        sendToAndFro(x, 1);
        x.begin(4, 1);
        x.seed(0);
        due("29 one is kept, one is not", x.drift(2), 4);
        told("29 60 kept", x, 4, 1, 0, 60);
        due("17 the 60th is the first of both", x.log(59, 0), 1);
        due("17 the 60th is the first of both", x.log(59, 2), 6);
        x.begin(4, 1);
        x.seed(0);
        due("29 none is kept", x.drift(1), 6);
        told("29 it goes on", x, 6, 0, 0, 60);
        due("17 the 60th as it was", x.log(59, 1), 4);
        due("30 both draws were made", x.seed(0), next(next(0)));
        due("29 forty more", x.drift(40) >= 0 ? 1 : 0, 1);
        due("17 still 60", x.told(10), 60);
        due("14 full", x.send(x.change(x.told(7), 0)), FULL);
    }

    /**
     * The draw from seed 1 is not 0. From 4 house 1 would send 6 with one move left, but with two house 0 would send 4
     * again, so it settles; from 12 house 0 would send 4 with one move left or with three, but settles with two.
     */
    private static void driftLooksTwoMovesAhead() {
        OneWordLetters x = States.in(States::small);
        DUES.holds("the draw from seed 1", next(1) / 65536 % 4 != 0);
        int[][] cases = {{4, 1}, {12, 0}, {0, 0}, {0, 1}, {6, 0}, {6, 1}, {3, 0}, {3, 1}};
        for (int[] one : cases) {
            x.begin(one[0], one[1]);
            x.seed(1);
            int next = x.ahead(one[0], one[1], 2, 4);
            due("29 from " + one[0] + " by house " + one[1], x.drift(1), next == NONE ? one[0] : next);
            due("30 one draw", x.seed(0), next(1));
            due("29 the other's turn", x.told(8), 1 - one[1]);
        }
        x.begin(4, 1);
        x.seed(1);
        due("20 with one move left it would be sent", x.ahead(4, 1, 1, 4), 6);
        due("29 with two it is not", x.drift(1), 4);
        x.begin(12, 0);
        x.seed(1);
        due("20 with three moves left it would be sent", x.ahead(12, 0, 3, 4), 4);
        due("29 with two it is not", x.drift(1), 12);
    }

    private static void driftGoesOnBehindSettling() {
        OneWordLetters x = States.in(States::small);
        x.begin(3, 1);
        x.seed(1);
        due("29 it settles", x.drift(1), 3);
        told("29 it settles", x, 3, 0, 0, 0);
        due("16 had 0", x.had(0), -20);
        due("16 had 1", x.had(1), 30);
        x.seed(1);
        due("29 it settles again", x.drift(1), 3);
        told("29 it settles again", x, 3, 1, 0, 0);
        due("16 had 0", x.had(0), -40);
        due("16 had 1", x.had(1), 60);
        due("15 then it can be settled", x.settle(), 30);
        due("29 then not", x.drift(1), NOT);
        OneWordLetters none = States.in(States::small);
        none.begin(3, 1);
        due("29 a draw of no changes: nothing", none.drift(1), 3);
        told("29 a draw of no changes: nothing", none, 3, 1, 0, 0);
        due("16 nothing had", none.had(0), 0);
        due("30 one draw", none.seed(0), next(0));
    }

    private static void imagesKeepTheCourseAlone() {
        OneWordLetters x = States.in(States::rich);
        due("32 goBack(0)", x.goBack(0), 1);
        told("32 image 0", x, 2, 0, 1, 2);
        due("32 law", x.told(5), 2);
        due("32 way", x.told(6), 1);
        due("32 seed", x.seed(77), 77);
        due("32 the text stays", x.told(4), 11);
        due("32 the fault stays", x.fault(), 7);
        due("32 guesses stay", x.told(11), 2);
        due("32 what they mean stays", x.mean(0, 0, -5), -5);
        due("32 the book stays", x.told(12), 3);
        due("32 settled", x.settle(), NOT);
        due("32 settled", x.drift(1), NOT);
        due("32 goBack(1)", x.goBack(1), 1);
        told("32 image 1", x, 6, 0, 0, 3);
        due("32 law", x.told(5), 0);
        due("32 way", x.told(6), 0);
        due("32 seed", x.seed(1), 12345);
        due("32 guesses stay", x.told(11), 2);
        due("27 both are gone", x.tear(), 5);
        due("32 an image does not bring them back", x.goBack(0), 1);
        due("32 guesses", x.told(11), 0);
        due("32 book", x.told(12), 0);
    }

    private static void imagesStayAsKept() {
        OneWordLetters x = States.in(States::small);
        x.begin(4, 0);
        x.keep(0);
        x.send(6);
        x.keep(1);
        x.settle();
        x.law(1);
        x.way(1);
        x.seed(5);
        for (int k = 0; k < 3; k++) {
            due("32 again and again", x.goBack(0), 1);
            told("32 image 0", x, 4, 0, 0, 0);
            due("32 had", x.had(0), 0);
            x.send(6);
            x.send(4);
            x.settle();
            x.seed(9);
            due("32 again and again", x.goBack(1), 1);
            told("32 image 1", x, 6, 1, 0, 1);
            due("32 seed", x.seed(0), 0);
            x.send(4);
        }
        due("31 anew", x.keep(0), 1);
        x.begin(15, 1);
        x.goBack(0);
        told("31 anew", x, 4, 0, 0, 2);
        x.goBack(1);
        told("31 the other is as it was", x, 6, 1, 0, 1);
        OneWordLetters z = States.in(States::small);
        z.keep(0);
        z.begin(6, 1);
        sendToAndFro(z, 60);
        z.keep(1);
        z.goBack(0);
        z.begin(4, 1);
        sendToAndFro(z, 60);
        z.goBack(1);
        for (int i = 0; i < 60; i++) {
            due("32 house of " + i, z.log(i, 0), 1 - i % 2);
            due("32 from of " + i, z.log(i, 1), i % 2 == 0 ? 6 : 4);
            due("32 to of " + i, z.log(i, 2), i % 2 == 0 ? 4 : 6);
        }
    }

    /** What was found by one law, way or tongue is not told by another one. */
    private static void foundUnderOtherRules() {
        String[] tongues = {States.SMALL,
            "letter 2;word turn 60 40;word name 40 60;word deed 20 70;word name 70 45;frame name,deed;frame deed,name;frame turn,name;",
            "letter 2;word name 51 53;word name 52 51;word name 53 52;word name 45 60;frame name,name;pair 1 2 60 40;"};
        for (int k = 0; k < 36; k++) {
            for (int t = 0; t < 3; t++) {
                OneWordLetters x = Dues.speaking(tongues[t]);
                found(x, k / 6);
                String by = " by " + k % 6 + " behind " + k / 6 + ", tongue " + t;
                DUES.same("20 the same tongue" + by, found(x, k % 6), found(Dues.speaking(tongues[t]), k % 6));
                OneWordLetters y = Dues.speaking(tongues[t]);
                found(y, k / 6);
                Dues.feedText(y, tongues[(t + 1) % 3]);
                y.tongue();
                DUES.same("20 another tongue" + by, found(y, k % 6), found(Dues.speaking(tongues[(t + 1) % 3]), k % 6));
            }
        }
    }

    /** Each tongue has more letters than the one before it, or fewer: it is as if it were the first one. */
    private static void foundInALargerTongue() {
        String words = "word name 60 40;word turn 40 60;word deed 53 48;word name 45 58;";
        String frames = "frame name,name;frame name,deed;frame turn,name;frame deed,name;";
        String[] tongues = {"letter 2;word name 60 40;frame name,name;", "letter 2;" + words + frames,
            "letter 3;word name 60 40;word deed 40 61;word turn 52 47;frame name,name,deed;frame name,deed,name;frame turn,deed,name;",
            "letter 3;" + words + "frame name,name,deed;frame name,turn,name;frame name,name,name;frame turn,deed,name;",
            "letter 2;" + words + "word deed 70 30;word turn 30 70;word name 20 90;" + frames};
        for (int from = 0; from < tongues.length; from++) {
            for (int to = 0; to < tongues.length; to++) {
                OneWordLetters x = Dues.speaking(tongues[from]);
                x.first(0, 8);
                Dues.feedText(x, tongues[to]);
                int last = x.tongue() - 1;
                OneWordLetters y = Dues.speaking(tongues[to]);
                String by = " of tongue " + to + " behind " + from;
                for (int letter = last; letter >= 0; letter -= 1 + last / 12) {
                    due("20 ahead(" + letter + ")" + by, x.ahead(letter, 1, 8, 2), y.ahead(letter, 1, 8, 2));
                    due("21 first(" + letter + ")" + by, x.first(letter, 7), y.first(letter, 7));
                    due("18 fewest(" + letter + ")" + by, x.fewest(letter, last, true), y.fewest(letter, last, true));
                }
                due("19 still" + by, x.still(NONE), y.still(NONE));
            }
        }
    }

    private static List<String> found(OneWordLetters x, int rules) {
        x.law(rules / 2);
        x.way(rules % 2);
        List<String> all = new ArrayList<>();
        all.add("still " + x.still(NONE) + " " + x.still(0));
        for (int letter = 1; letter < 16; letter += 3) {
            all.add("first " + letter + " " + x.first(letter, 3));
            all.add("ahead " + letter + " " + x.ahead(letter, 1, 8, 2));
        }
        return all;
    }

    private static void lastOf512Calls() {
        OneWordLetters x = new OneWordLetters();
        for (int k = 0; k < 255; k++) {
            x.tongue();
            x.seed(k);
        }
        due("the 511th call", x.feed(1, ' '), 1);
        due("the 512th call", x.seed(0), 254);
        OneWordLetters y = States.in(States::small);
        for (int k = 0; k < 160; k++) {
            y.law(k % 3);
            y.way(k % 2);
            y.still(NONE);
        }
        y.law(0);
        y.way(0);
        due("behind 500 calls", y.still(0), 3);
        due("behind 500 calls", y.first(4, 1), 55);
    }
}
