/** Objects that many tests begin with. */
final class Scenes {
    private Scenes() {
    }

    /**
     * Something of everything: followers 0 (PLAIN, two goods, four rows) and 1 (GRIM, three goods, two rows); MOST 31,
     * THE TERM 5/3; sheets 0 to 2 of all sorts (3, 5, 4 numbers), 3 MISSING; spots 0, 1, 2, 9 with a follower, a term,
     * rows; rows of pieces, one altered; and an image that is unlike all this.
     */
    static Run rich() {
        return new Run("follower 14 2", "good 0 0 0 12", "good 0 1 2 -4", "budget 0 12 10", "bind 0 285 6", "bind 0 199 8",
            "bind 0 171 3", "follower 69 3", "good 1 2 1 3", "bind 1 100 7", "most 30", "term 7 2", "book 0 77", "seed 9",
            "round", "image", "become 0 25", "good 0 0 1 2", "good 1 0 2 5", "most 31", "round", "term 5 3", "seed -5",
            "sheet 0 0 3", "write 0 1 7", "sheet 1 1 5", "write 1 4 -9", "sheet 2 2 4", "write 2 0 99", "hold 0 0 1",
            "hold 1 1 0", "hold 2 2 1", "hold 9 2 2", "prove", "alter 0 4 12345");
    }

    /** As many followers as there may be. */
    static Run full() {
        return rich().make("follower 33 1");
    }

    /** One good: amounts 0 to 10, worth 10, toll 1; it turns where it feels 10. */
    static Run oneGood(int km) {
        return new Run("follower " + km + " 1");
    }

    /** Followers with one, two and three goods, of which some rows are gone; all have several plans and prices. */
    static Run unlike() {
        return new Run("follower 0 1", "bind 0 220 7", "bind 0 196 7", "loosen 0 1", "follower 30 3", "good 1 0 0 20", "good 1 0 1 3", "good 1 2 2 -4",
            "bind 1 235 18", "bind 1 283 16", "bind 1 305 9", "loosen 1 2", "follower 41 2", "good 2 1 0 15", "bind 2 220 5", "bind 2 234 15",
            "bind 2 178 5", "sheet 0 1 5", "write 0 0 1", "write 0 1 9", "write 0 3 4", "sheet 1 2 2", "write 1 1 -999", "prove", "term 1 2");
    }

    /** Three followers with eight breaks each, 22 of them unlike, the most that drawn ones had. */
    static Run manyBreaks() {
        Run x = new Run("most 40");
        int[] kinds = {0, 41, 61};
        for (int f = 0; f < 3; f++) {
            x.make("follower " + kinds[f] + " 3", "good " + f + " 0 0 7", "good " + f + " 1 0 12", "good " + f + " 1 1 2", "good " + f + " 2 0 14",
                "good " + f + " 2 1 3", "budget " + f + " 0 14", "bind " + f + " 235 18", "bind " + f + " 283 16", "bind " + f + " 305 9");
        }
        return x;
    }

    /** The sheet becomes these numbers. */
    static Run sheet(Run x, int s, int sort, long... numbers) {
        x.due("sheet " + s + " " + sort + " " + numbers.length, numbers.length);
        for (int i = 0; i < numbers.length; i++) {
            x.due("write " + s + " " + i + " " + numbers[i], 1);
        }
        return x;
    }

    /** Rounds that bring 10 each, whatever the term; the ledger is so then. */
    static Run tenEach(long ledger) {
        return new Run("follower 0 1", "good 0 0 1 0", "good 0 0 2 1").due("book 0 " + ledger, ledger);
    }
}
