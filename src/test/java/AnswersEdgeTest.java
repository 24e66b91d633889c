/** Promises 11 to 21: the boundary cases of each sentence about the term, answers, sides and prices. */
public final class AnswersEdgeTest {
    private static final int BEYOND = Run.BEYOND;
    private static final int NONE = Run.NONE;
    private static final int STATE = Run.STATE;
    private static final int MISSING = Run.MISSING;

    public static void main(String[] args) {
        Edges.promises(11, AnswersEdgeTest::p11, AnswersEdgeTest::p12, AnswersEdgeTest::p13, AnswersEdgeTest::p14,
            AnswersEdgeTest::p15, AnswersEdgeTest::p16, AnswersEdgeTest::p17, AnswersEdgeTest::p18, AnswersEdgeTest::p19,
            AnswersEdgeTest::p20, AnswersEdgeTest::p21);
    }

    private static void p11() {
        Edges.says("MOST becomes v: what it was.");
        new Run().due("most 40", 20).due("most 1", 40).due("most 1", 1).due("count 1", 1).due("most 20", 1).due("count 1", 20);
        Edges.says("BEYOND.");
        new Run("follower 0 1", "most 7").range("most ?", 1, 40, BEYOND);
        Edges.says("STATE: THE TERM is above v.");
        new Run("term 7 1").refused("most 6", STATE).refused("most 1", STATE).due("most 7", 20).refused("most 6", STATE);
        new Run("term 14000001 2000000").refused("most 7", STATE).due("most 8", 20);
        new Run("term 13999999 2000000").refused("most 6", STATE).due("most 7", 20);
        new Run("term 1 2000000").due("most 1", 20);
        new Run("most 40", "term 40 1").refused("most 39", STATE).due("most 40", 40);
        // What is beyond is asked ahead of that.
        Scenes.rich().refused("most 0", BEYOND).refused("most -1", BEYOND).refused("most MIN", BEYOND).refused("most 1", STATE);
    }

    private static void p12() {
        Edges.says("THE TERM becomes above by below: 1.");
        Run x = new Run();
        x.due("term 0 1", 1).dues("termOf", 0, 1).due("term 20 1", 1).dues("termOf", 20, 1);
        x.due("term 40000000 2000000", 1).dues("termOf", 20, 1).due("term 39999999 2000000", 1).dues("termOf", 39999999, 2000000);
        x.due("term 1 2000000", 1).dues("termOf", 1, 2000000).due("term 0 2000000", 1).dues("termOf", 0, 1);
        x.make("most 40").due("term 79999999 2000000", 1).dues("termOf", 79999999, 2000000).due("term 80000000 2000000", 1);
        Edges.says("BEYOND: below isn't 1 to 2000000, above is below 0, it is above MOST.");
        x = Scenes.rich();
        x.range("term 1 ?", 1, 2000000, BEYOND).range("term 0 ?", 1, 2000000, BEYOND);
        x.range("term ? 1", 0, 31, BEYOND).range("term ? 3", 0, 93, BEYOND).range("term ? 2000000", 0, 62000000, BEYOND);
        // Numbers of which the lowest bits alone would do, and products that would wrap around.
        x.refused("term 1 4294967297", BEYOND).refused("term 4294967297 1", BEYOND).refused("term 1 -4294967295", BEYOND);
        x.refused("term LMAX 2000000", BEYOND).refused("term LMAX LMAX", BEYOND).refused("term LMIN LMIN", BEYOND);
        x.refused("term 0 0", BEYOND).refused("term -1 -1", BEYOND).refused("term 0 LMAX", BEYOND).refused("term 0 LMIN", BEYOND);
        x.refused("term 1 595056260442243601", BEYOND);
        new Run("most 1").range("term ? 1", 0, 1, BEYOND).range("term ? 2000000", 0, 2000000, BEYOND);
        new Run("most 40").range("term ? 1", 0, 40, BEYOND).range("term ? 2000000", 0, 80000000, BEYOND);
    }

    private static void p13() {
        Edges.says("THE TERM.");
        new Run("term 35 10").dues("termOf", 7, 2).make("term 0 9").dues("termOf", 0, 1);
        Edges.says("BEYOND: part.");
        Scenes.rich().range("termOf ?", 0, 1, BEYOND);
        new Run().range("termOf ?", 0, 1, BEYOND);
    }

    private static void p14() {
        Edges.says("The AMOUNT of a GOOD in a PLAN.");
        Run x = new Run("follower 0 2", "budget 0 15 7");
        x.dues("amount 0 0 0", 0, 1).dues("amount 0 0 1", 0, 1).dues("amount 0 1 0", 0, 1).dues("amount 0 1 1", 7, 3);
        x.dues("amount 0 2 0", 7, 2).dues("amount 0 2 1", 0, 1);
        new Run("follower 0 1", "budget 0 0 0").dues("amount 0 0 0", 0, 1).range("amount 0 ? 0 0", 0, 0, BEYOND);
        Edges.says("BEYOND.");
        new Run().refused("amount 0 0 0 0", BEYOND);
        x = Scenes.rich();
        for (int f = 0; f < 2; f++) {
            long plans = x.again().ask("of " + f + " 4");
            x.range("amount " + f + " ? 0 0", 0, plans - 1, BEYOND).range("amount " + f + " 0 ? 0", 0, 1 + f, BEYOND);
            x.range("amount " + f + " 0 0 ?", 0, 1, BEYOND);
        }
        x.range("amount ? 0 0 0", 0, 1, BEYOND);
        new Run("follower 0 3", "budget 0 0 20", "bind 0 220 10", "bind 0 178 9", "bind 0 172 8").range("amount 0 ? 2 1", 0, 9, BEYOND);
    }

    private static void p15() {
        Edges.says("NET (what 0), GAIN (1) of a PLAN (-1: of the ANSWER).");
        // (0, 0), (0, 10), (10, 0): LATE, at 7/3.
        Run x = new Run("follower 50 2", "good 0 0 2 2", "good 0 1 2 -3", "term 7 3");
        x.dues("brings 0 0 0", 0, 1).dues("brings 0 0 1", 0, 1).dues("brings 0 1 0", 230, 3).dues("brings 0 1 1", -20, 3);
        x.dues("brings 0 2 0", 230, 3).dues("brings 0 2 1", 130, 3).dues("brings 0 -1 0", 230, 3).dues("brings 0 -1 1", 130, 3);
        // The greatest and least there is: 20 of a good, dear and not worth anything, at nearly 40.
        x = new Run("follower 69 1", "good 0 0 0 0", "good 0 0 1 3", "good 0 0 2 9", "budget 0 0 20", "most 40", "term 79999999 2000000");
        x.dues("brings 0 1 0", -266999997, 50000).dues("brings 0 1 1", 257999997, 100000).dues("brings 0 -1 1", 0, 1);
        Edges.says("BEYOND.");
        new Run().refused("brings 0 0 0 0", BEYOND).refused("brings 0 -1 0 0", BEYOND);
        new Run("follower 0 1", "budget 0 0 0").range("brings 0 ? 0 0", -1, 0, BEYOND);
        x = Scenes.rich();
        for (int f = 0; f < 2; f++) {
            long plans = x.again().ask("of " + f + " 4");
            x.range("brings " + f + " ? 1 0", -1, plans - 1, BEYOND).range("brings " + f + " -1 ? 0", 0, 1, BEYOND);
            x.range("brings " + f + " -1 0 ?", 0, 1, BEYOND);
        }
        x.range("brings ? -1 0 0", 0, 1, BEYOND);
    }

    private static void p16() {
        Edges.says("TOTAL (how 0), what it nears at the TERM from below (1), from above (2).");
        Run x = new Run("follower 10 1", "follower 0 1", "term 10 1");
        x.dues("total 0", 100, 1).dues("total 1", 200, 1).dues("total 2", 0, 1);
        x = new Run("follower 0 1", "good 0 0 0 20", "term 1 2000000");
        for (int how = 0; how < 3; how++) {
            x.dues("total " + how, 1, 200000);
        }
        x.make("term 39999999 2000000");
        for (int how = 0; how < 3; how++) {
            x.dues("total " + how, 39999999, 200000);
        }
        Edges.says("BEYOND.");
        Scenes.rich().range("total ? 0", 0, 2, BEYOND).range("total 0 ?", 0, 1, BEYOND).range("total 1 ?", 0, 1, BEYOND);
        new Run("term 1 1").range("total ? 0", 0, 2, BEYOND);
        Edges.says("NONE: from below at 0, from above at MOST.");
        new Run().refused("total 1 0", NONE).refused("total 1 1", NONE).dues("total 0", 0, 1).dues("total 2", 0, 1);
        new Run("term 20 1").refused("total 2 0", NONE).refused("total 2 1", NONE).dues("total 0", 0, 1).dues("total 1", 0, 1);
        x = Scenes.rich().make("term 0 1").refused("total 1 0", NONE).make("total 2 0", "total 0 0");
        x.make("term 31 1").refused("total 2 0", NONE).make("total 1 0", "total 0 0");
        x.make("term 61999999 2000000", "total 2 0", "term 1 2000000", "total 1 0");
        // MOST that comes down to THE TERM, and goes up from it.
        new Run("term 7 1").dues("total 2", 0, 1).make("most 7").refused("total 2 0", NONE).make("most 8").dues("total 2", 0, 1);
        // What is beyond is asked ahead of that.
        new Run().refused("total 1 2", BEYOND).refused("total 1 -1", BEYOND);
        new Run("term 20 1").refused("total 2 2", BEYOND).refused("total 2 MIN", BEYOND).refused("total 3 0", BEYOND);
    }

    private static void p17() {
        Edges.says("How many sets of PAIRS are OPEN (what 0), how many nodes are LIVE (1), how many PROOFS there are (2).");
        // Of a bound of 0 all pairs are tight at once; the price is 10, 0, 0.
        Run x = new Run("follower 0 1", "budget 0 0 0").dues("opens 0", 2, 4, 1);
        x.make("term 10 1").dues("opens 0", 4, 7, 1).make("term 15 1").dues("opens 0", 2, 5, 1);
        // All that can be: seven pairs, all tight, and prices that are all 0.
        x = new Run("follower 0 3", "budget 0 0 0", "bind 0 171 0", "bind 0 171 0", "bind 0 171 0", "term 10 1");
        x.dues("opens 0", 128, 255, 1);
        // Three rows that are alike, and none that is.
        new Run("follower 0 1", "bind 0 196 10", "bind 0 196 10", "bind 0 196 10").due("opens 0 2", 4);
        Edges.says("BEYOND.");
        new Run().refused("opens 0 0", BEYOND);
        Scenes.rich().range("opens ? 0", 0, 1, BEYOND).range("opens 0 ?", 0, 2, BEYOND).range("opens 1 ?", 0, 2, BEYOND);
    }

    private static void p18() {
        Edges.says("The k-th (from 0) OPEN set, by numbers.");
        Run x = new Run("follower 0 1", "budget 0 0 0").dues("openAt 0", 1, 3);
        x.make("term 10 1").dues("openAt 0", 0, 1, 2, 3).make("term 15 1").dues("openAt 0", 2, 3);
        x = new Run("follower 0 3", "budget 0 0 0", "bind 0 171 0", "bind 0 171 0", "bind 0 171 0", "term 10 1");
        for (int k = 0; k < 128; k++) {
            x.due("openAt 0 " + k, k);
        }
        x.range("openAt 0 ?", 0, 127, NONE);
        Edges.says("BEYOND: no such FOLLOWER.");
        new Run().refused("openAt 0 0", BEYOND);
        Scenes.rich().range("openAt ? 0", 0, 1, BEYOND);
        Edges.says("NONE.");
        for (int f = 0; f < 2; f++) {
            Scenes.rich().range("openAt " + f + " ?", 0, Scenes.rich().ask("opens " + f + " 0") - 1, NONE);
        }
        new Run("follower 0 1").range("openAt 0 ?", 0, 0, NONE);
        // What is beyond is asked ahead of that.
        Scenes.rich().refused("openAt 2 99", BEYOND).refused("openAt 2 -1", BEYOND).refused("openAt -1 MAX", BEYOND);
    }

    private static void p19() {
        Edges.says("Whether a set of PAIRS is OPEN (1, 0).");
        Run x = new Run("follower 0 1", "budget 0 0 0").dues("isOpen 0", 0, 1, 0, 1);
        x.make("term 10 1").dues("isOpen 0", 1, 1, 1, 1).make("term 15 1").dues("isOpen 0", 0, 0, 1, 1);
        new Run("follower 0 1").dues("isOpen 0", 0, 1, 0, 0).make("term 10 1").dues("isOpen 0", 1, 1, 1, 0);
        // It takes 5, which leaves room in the budget: row 1 alone is in.
        new Run("follower 0 1", "bind 0 196 5").dues("isOpen 0", 0, 0, 1, 0, 0, 0, 0, 0);
        Edges.says("BEYOND: also a set with others.");
        new Run().refused("isOpen 0 0", BEYOND);
        new Run("follower 0 1").range("isOpen 0 ?", 0, 3, BEYOND);
        x = Scenes.rich().range("isOpen ? 0", 0, 1, BEYOND).range("isOpen 0 ?", 0, 63, BEYOND).range("isOpen 1 ?", 0, 31, BEYOND);
        x.refused("isOpen 1 1073741824", BEYOND).refused("isOpen 0 -64", BEYOND);
        // As rows come and go.
        x.make("loosen 0 3").range("isOpen 0 ?", 0, 31, BEYOND).make("bind 1 0 0", "bind 1 0 0").range("isOpen 1 ?", 0, 127, BEYOND);
    }

    private static void p20() {
        Edges.says("The PRICE of a ROW in THE PROOF.");
        Run x = new Run("follower 0 1", "budget 0 18 10", "term 1 2").dues("price 0 0", 19, 6);
        x.make("term 10 1").dues("price 0 0", 0, 1).make("term 19999999 2000000").dues("price 0 0", 1, 6000000);
        x.make("term 20000001 2000000").dues("price 0 0", 0, 1);
        // A bound of 0 costs nothing.
        new Run("follower 0 1", "bind 0 196 0").dues("price 0 0", 0, 1).dues("price 0 1", 10, 1);
        new Run("follower 0 1", "budget 0 0 0", "bind 0 196 1").dues("price 0 0", 10, 1).dues("price 0 1", 0, 1);
        // A row that is gone costs nothing, and proves nothing.
        new Run("follower 0 1", "bind 0 196 1", "bind 0 196 20", "loosen 0 1").dues("price 0 0", 10, 1).dues("price 0 1", 0, 1).make("loosen 0 1").dues("price 0 0", 10, 1);
        // Nor does the bound of a row that was behind all others: 10 y0 and 10 y1 for y0 and y1 of 20 are alike.
        new Run("follower 0 2", "good 0 0 0 0", "good 0 1 0 20", "bind 0 178 10", "bind 0 227 10", "loosen 0 2").due("opens 0 2", 2)
            .dues("price 0 0", 0, 1).dues("price 0 1", 20, 1);
        // As many rows prove as there are goods.
        new Run("follower 0 3", "budget 0 0 20", "bind 0 220 1", "bind 0 178 2", "bind 0 172 3").dues("price 0 0", 0, 1).dues("price 0 1", 10, 1)
            .dues("price 0 2", 10, 1).dues("price 0 3", 10, 1).due("opens 0 2", 1);
        // Followers with unlike goods and rows, asked by turns.
        x = Scenes.unlike().make("term 0 1");
        for (int again = 0; again < 2; again++) {
            x.dues("price 0 0", 0, 1).dues("price 0 1", 10, 1).make("price 1 0 0").dues("price 2 0", 0, 1).dues("price 2 1", 2, 1).dues("price 2 2", 7, 1);
        }
        Edges.says("BEYOND.");
        new Run().refused("price 0 0 0", BEYOND);
        x = Scenes.rich().range("price ? 0 0", 0, 1, BEYOND).range("price 0 ? 0", 0, 3, BEYOND).range("price 1 ? 1", 0, 1, BEYOND);
        x.range("price 0 0 ?", 0, 1, BEYOND).range("price 1 1 ?", 0, 1, BEYOND);
        new Run("follower 0 3").range("price 0 ? 0", 0, 0, BEYOND);
    }

    /** What weigh answers for a follower with these calls, if sheet 0 tells these longs. */
    private static void weighs(String[] who, int due, long... numbers) {
        Scenes.sheet(new Run(who), 0, 2, numbers).due("weigh 0 0", due);
    }

    private static void p21() {
        String[] two = {"follower 0 1", "bind 0 196 10"};
        Edges.says("A SHEET tells PRICES: number 0 what is below the line of all (1 to 1000000), numbers 1, 2, .. above it (0 to 1000000000), of ROWS 0, 1, ..;");
        weighs(two, 0, 1, 4, 6);
        weighs(two, 0, 1, 0, 10);
        weighs(two, 0, 1, 10, 0);
        weighs(two, 0, 1000000, 4000000, 6000000);
        weighs(two, 2, 1, 1000000000, 0);
        weighs(two, 2, 1, 0, 1000000000);
        weighs(two, 2, 1000000, 1000000000, 1000000000);
        Scenes.sheet(new Run(two), 3, 0, 1, 10, 0).due("weigh 3 0", 0);
        Scenes.sheet(new Run(two), 3, 1, 1, 10, 0).due("weigh 3 0", 0);
        Edges.says("further ones don't count:");
        weighs(two, 0, 1, 4, 6, -5);
        weighs(two, 0, 1, 4, 6, Long.MIN_VALUE, Long.MAX_VALUE);
        weighs(new String[] {"follower 0 1"}, 0, 1, 10, 1000000001);
        new Run(two).make("sheet 0 2 40", "write 0 0 1", "write 0 2 10", "write 0 39 -1").due("weigh 0 0", 0);
        Edges.says("0 they are PRICES, and their sum times BOUNDS is no more than NET of the BEST PLANS;");
        // Nothing is left to prove, or all bounds are 0: then prices may be as they like.
        weighs(new String[] {"follower 0 1", "term 20 1"}, 0, 1, 0);
        weighs(new String[] {"follower 0 1", "term 20 1"}, 2, 1000000, 1);
        weighs(new String[] {"follower 0 1", "budget 0 0 0"}, 0, 1, 1000000000);
        // A hair is left, and just proved, or less than can be told.
        weighs(new String[] {"follower 0 1", "term 9999999 1000000"}, 0, 1000000, 1);
        weighs(new String[] {"follower 0 1", "term 9999999 1000000"}, 2, 1000000, 2);
        weighs(new String[] {"follower 0 1", "term 9999999 1000000"}, 10, 1000000, 0);
        weighs(new String[] {"follower 0 1", "term 19999999 2000000"}, 2, 1000000, 1);
        Edges.says("1 one is not as told, or lacks;");
        for (long below : new long[] {0, -1, 1000001, Integer.MIN_VALUE, Integer.MAX_VALUE, Long.MIN_VALUE, Long.MAX_VALUE, 4294967297L}) {
            weighs(two, 1, below, 4, 6);
        }
        for (long above : new long[] {-1, 1000000001, Integer.MIN_VALUE, Integer.MAX_VALUE, Long.MIN_VALUE, Long.MAX_VALUE, 4294967306L}) {
            weighs(two, 1, 1, above, 10);
            weighs(two, 1, 1, 10, above);
        }
        weighs(two, 1);
        weighs(two, 1, 1);
        weighs(two, 1, 1, 10);
        weighs(new String[] {"follower 0 1"}, 1, 1);
        // It is asked ahead of what is too little, or more.
        weighs(two, 1, 1, 0, -1);
        weighs(two, 1, 1, 0);
        weighs(two, 1, 0, 0, 0);
        weighs(two, 1, 1, 1000000000, -1);
        Edges.says("10 and the number of the first GOOD for which they are too little;");
        weighs(two, 10, 1, 4, 5);
        weighs(two, 10, 1000000, 9999999, 0);
        weighs(two, 10, 1, 0, 0);
        weighs(new String[] {"follower 0 3"}, 10, 1, 9);
        weighs(new String[] {"follower 0 3", "good 0 0 0 9"}, 11, 1, 9);
        weighs(new String[] {"follower 0 3", "good 0 0 0 9", "good 0 1 0 9"}, 12, 1, 9);
        weighs(new String[] {"follower 0 3", "good 0 0 0 9", "good 0 1 0 9"}, 10, 1, 8);
        // It is asked ahead of what is more.
        weighs(new String[] {"follower 0 2", "bind 0 220 20"}, 11, 1, 0, 1000000000);
        Edges.says("2 that sum is more.");
        weighs(two, 2, 1, 4, 7);
        weighs(two, 2, 1000000, 10000001, 0);
        weighs(two, 2, 999999, 9999991, 0);
        Edges.says("BEYOND.");
        Run x = Scenes.rich().make("sheet 3 1 0").range("weigh ? 0", 0, 3, BEYOND).range("weigh 0 ?", 0, 1, BEYOND);
        new Run("sheet 0 1 2").refused("weigh 0 0", BEYOND);
        Edges.says("MISSING.");
        Scenes.rich().refused("weigh 3 0", MISSING).refused("weigh 3 1", MISSING);
        x.make("sheet 0 -1 0").refused("weigh 0 0", MISSING);
        // What is beyond is asked ahead of that.
        Scenes.rich().refused("weigh 3 2", BEYOND).refused("weigh 3 -1", BEYOND).refused("weigh 4 2", BEYOND);
    }
}
