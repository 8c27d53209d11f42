/** Objects in states that boundary tests begin with; the same steps always, so that two made alike are alike. */
final class States {
    // Words: 0 name (10, -10), 1 deed (20, -5), 2 turn (0, 0), 3 link (-30, 40).
    // Letters that stand: 3 (link name: -20, 30), 4 (name deed: 35, -17), 6 (turn deed: -20, 5).
    static final String SMALL = "letter 2;word name 60 40;word deed 70 45;word turn 50 50;word link 20 90;"
            + "frame name,deed;frame turn,deed;frame link,name;pair 0 1 55 48;";
    static final String EIGHT_NAMES = "letter 4;" + "word name 51 49;".repeat(8) + "frame name,name,name,name;";

    interface State {
        void make(OneWordLetters x);
    }

    private States() { }

    static OneWordLetters in(State state) {
        OneWordLetters x = new OneWordLetters();
        state.make(x);
        return x;
    }

    /** No tongue yet. */
    static void fresh(OneWordLetters x) {
        // As it was made.
    }

    /** Frames and a length, but no words. */
    static void wordless(OneWordLetters x) {
        Dues.feedText(x, "letter 3;frame name,deed,turn;");
        x.tongue();
    }

    static void small(OneWordLetters x) {
        Dues.feedText(x, SMALL);
        x.tongue();
    }

    static void eightNames(OneWordLetters x) {
        Dues.feedText(x, EIGHT_NAMES);
        x.tongue();
    }

    /**
     * Something everywhere but in THE TEXT: fault 7, law 0, way 0, letter 4, house 1's turn, not settled, seed 12345,
     * log 0: 4 6, 1: 6 2, 1: 4 6, 0: 6 4; guesses 0 of house 0 and 1 of house 1; book 4 6 3; both images kept.
     */
    static void busy(OneWordLetters x) {
        small(x);
        Dues.feedText(x, "letter 9;");
        x.tongue();
        x.seed(77);
        x.law(2);
        x.way(1);
        x.begin(4, 0);
        x.send(6);
        x.send(2);
        x.settle();
        x.keep(0);
        x.law(0);
        x.way(0);
        x.seed(12345);
        x.begin(4, 1);
        x.send(6);
        x.keep(1);
        x.send(4);
        x.guess(0);
        x.mean(0, 0, -5);
        x.guess(1);
        x.mean(1, 3, 49);
        x.write(4);
        x.write(6);
        x.write(3);
    }

    /** Busy, with 11 bytes of a text that would be another tongue. */
    static void rich(OneWordLetters x) {
        busy(x);
        Dues.feedText(x, "letter 3;wo");
    }

    static void settled(OneWordLetters x) {
        rich(x);
        x.settle();
    }

    /** Rich, with all that can be full being so; the letter is 4, house 1's turn. */
    static void full(OneWordLetters x) {
        rich(x);
        for (int k = 4; k < 60; k++) {
            x.send(k % 2 == 0 ? 6 : 4);
        }
        for (int g = 2; g < 6; g++) {
            x.guess(g % 2);
        }
        for (int k = 3; k < 30; k++) {
            x.write(k % 2 == 0 ? 6 : 4);
        }
        Dues.feedText(x, "rd name 7 8;" + " ".repeat(477));
    }

    static void fullAndSettled(OneWordLetters x) {
        full(x);
        x.settle();
    }

    /** By way 1 each letter may become the first and the last one by one step or two; 3 may at once. */
    static void nonsense(OneWordLetters x) {
        rich(x);
        x.way(1);
        x.begin(3, 0);
    }
}
