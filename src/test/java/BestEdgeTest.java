/** Promises 22 to 31: the boundary cases of each sentence about breaks, pieces, the best of all, and what is best. */
public final class BestEdgeTest {
    private static final int BEYOND = Run.BEYOND;
    private static final int NONE = Run.NONE;

    public static void main(String[] args) {
        Edges.promises(22, BestEdgeTest::p22, BestEdgeTest::p23, BestEdgeTest::p24, BestEdgeTest::p25, BestEdgeTest::p26,
            BestEdgeTest::p27, BestEdgeTest::p28, BestEdgeTest::p29, BestEdgeTest::p30, BestEdgeTest::p31);
    }

    private static void p22() {
        Edges.says("How many BREAKS (f -1: of all).");
        new Run().due("breaks -1", 0);
        // It turns at 10: that is no break if MOST is 10.
        new Run("follower 0 1").due("breaks 0", 1).make("most 10").due("breaks 0", 0).due("breaks -1", 0).make("most 11").due("breaks 0", 1);
        // At 0 there is none, either.
        new Run("follower 0 1", "good 0 0 0 0").due("breaks 0", 0);
        new Run("follower 49 1", "good 0 0 0 9").due("breaks 0", 0).make("good 0 0 0 10").due("breaks 0", 1)
            .make("most 1").due("breaks 0", 0).make("become 0 69").due("breaks 0", 1).make("become 0 68").due("breaks 0", 0);
        // Goods without toll, or without worth left, or no goods at all to choose.
        new Run("follower 0 1", "good 0 0 1 0").due("breaks 0", 0).make("good 0 0 1 3").due("breaks 0", 1).make("budget 0 0 0").due("breaks 0", 0);
        // Those of several at the same term count once.
        new Run("follower 0 1", "follower 10 1", "follower 30 1", "good 2 0 0 20").dues("breaks", 1, 1, 1).due("breaks -1", 1);
        new Run("follower 0 1", "follower 10 1", "follower 30 1").dues("breaks", 1, 1, 1).due("breaks -1", 2);
        // As many as three followers can bring about.
        Scenes.manyBreaks().dues("breaks", 8, 8, 8).due("breaks -1", 22).due("count 6", 23);
        Edges.says("BEYOND.");
        new Run().range("breaks ?", -1, -1, BEYOND);
        Scenes.rich().range("breaks ?", -1, 1, BEYOND);
        Scenes.full().range("breaks ?", -1, 2, BEYOND);
    }

    private static void p23() {
        Edges.says("The k-th of them (from 0, the least first).");
        Run x = new Run("follower 0 1", "follower 63 1", "follower 49 1");
        x.dues("breakAt -1 0", 1, 1).dues("breakAt -1 1", 7, 2).dues("breakAt -1 2", 10, 1);
        x.dues("breakAt 0 0", 10, 1).dues("breakAt 1 0", 7, 2).dues("breakAt 2 0", 1, 1);
        // 2, 7/2, 15/4, 9/2, 14/3, 5, 25/4, 7; less 1; half of that.
        long[] above = {2, 7, 15, 9, 14, 5, 25, 7};
        long[] below = {1, 2, 4, 2, 3, 1, 4, 1};
        Run many = Scenes.manyBreaks();
        for (int k = 0; k < 8; k++) {
            many.dues("breakAt 0 " + k, above[k], below[k]).dues("breakAt 1 " + k, above[k] - below[k], below[k]);
            many.due("breakAt 2 " + k + " 0", (above[k] - below[k]) / ((above[k] - below[k]) % 2 == 0 ? 2 : 1));
        }
        many.dues("breakAt -1 0", 1, 2).dues("breakAt -1 21", 7, 1).range("breakAt -1 ? 0", 0, 21, BEYOND);
        Edges.says("BEYOND.");
        x.range("breakAt -1 ? 0", 0, 2, BEYOND).range("breakAt 1 ? 1", 0, 0, BEYOND).range("breakAt ? 0 0", -1, 2, BEYOND);
        x.range("breakAt -1 0 ?", 0, 1, BEYOND).range("breakAt 2 0 ?", 0, 1, BEYOND);
        new Run().refused("breakAt -1 0 0", BEYOND).refused("breakAt 0 0 0", BEYOND);
        new Run("follower 0 1", "most 10").refused("breakAt 0 0 0", BEYOND).refused("breakAt -1 0 0", BEYOND);
        Scenes.rich().range("breakAt -1 ? 1", 0, Scenes.rich().ask("breaks -1") - 1, BEYOND);
    }

    private static void p24() {
        Edges.says("Of the k-th PIECE (from 0): what 0 SLOPE above, 1 below the line, 2, 3 LEFT, 4, 5 RIGHT likewise.");
        new Run().dues("piece 0", 0, 1, 0, 1, 0, 1);
        Run x = new Run("follower 0 1", "budget 0 18 10", "good 0 0 2 -1");
        x.dues("piece 0", 10, 3, -10, 3, 30, 1).dues("piece 1", 0, 1, 0, 1, 0, 1);
        // Breaks with unlike numbers below the line: 7/2, 20/3, 10.
        Run y = new Run("follower 0 1", "follower 63 1", "follower 0 1", "good 2 0 0 20", "good 2 0 1 3");
        y.dues("piece 0", 50, 1, 0, 1, 175, 1).dues("piece 1", 40, 1, 140, 1, 800, 3).dues("piece 2", 10, 1, 200, 3, 100, 1).dues("piece 3", 0, 1, 0, 1, 0, 1);
        // No break, and MOST as its end.
        x.make("most 10").dues("piece 0", 10, 3, -10, 3, 30, 1).make("most 1").dues("piece 0", 10, 3, -10, 3, 0, 1);
        Edges.says("BEYOND.");
        new Run().range("piece ? 0", 0, 0, BEYOND).range("piece 0 ?", 0, 5, BEYOND);
        new Run("follower 0 1").range("piece ? 5", 0, 1, BEYOND).make("most 10").range("piece ? 5", 0, 0, BEYOND);
        Scenes.rich().range("piece ? 0", 0, Scenes.rich().ask("breaks -1"), BEYOND).range("piece 0 ?", 0, 5, BEYOND);
        Scenes.manyBreaks().range("piece ? 0", 0, 22, BEYOND);
    }

    private static void p25() {
        Edges.says("BEST OF ALL: what 0 above, 1 below the line; WHERE: 2, 3; HOW: 4.");
        new Run().dues("best", 0, 1, 0, 1, 0);
        new Run("follower 63 1").dues("best", 35, 1, 7, 2, 1);
        new Run("follower 63 1", "budget 0 18 1").dues("best", 7, 6, 7, 2, 1);
        // At MOST it is, or is neared from below; from above never.
        new Run("follower 0 1", "most 10").dues("best", 100, 1, 10, 1, 0).make("become 0 10").dues("best", 100, 1, 10, 1, 1);
        new Run("follower 10 1", "good 0 0 0 8", "good 0 0 1 2", "good 0 0 2 -9", "most 4").dues("best", -10, 1, 4, 1, 0)
            .make("most 5").dues("best", 0, 1, 4, 1, 2);
        // At 0 it is, or is neared from above.
        new Run("follower 0 1", "good 0 0 0 0", "good 0 0 2 9").dues("best", 90, 1, 0, 1, 0);
        new Run("follower 10 1", "good 0 0 0 0", "good 0 0 2 -9").dues("best", 0, 1, 0, 1, 2);
        // Below 0 there is nothing to be neared: there it would take good 0, which brings 90.
        new Run("follower 20 2", "good 0 0 2 9", "good 0 1 1 0").dues("total 0", 0, 1).dues("best", 0, 1, 0, 1, 0);
        Edges.says("BEYOND.");
        new Run().range("best ?", 0, 4, BEYOND);
        Scenes.rich().range("best ?", 0, 4, BEYOND);
    }

    private static void p26() {
        Edges.says("It, were all FOLLOWERS of a KIND (with their m).");
        for (int kind = 0; kind < 7; kind++) {
            for (int what = 0; what < 5; what++) {
                new Run().due("asKind " + kind + " " + what, what % 2 == 1 ? 1 : 0);
            }
        }
        // m 4 and m 6: GRIM turns at 3 and at 2, DULL at 6 and at 4.
        Run x = new Run("follower 14 1", "follower 26 1");
        x.dues("asKind 0", 200, 1, 10, 1, 0).dues("asKind 1", 200, 1, 10, 1, 1).dues("asKind 2", 200, 1, 10, 1, 1);
        x.dues("asKind 3", 100, 1, 5, 1, 1).dues("asKind 4", 80, 1, 4, 1, 1).dues("asKind 5", 200, 1, 10, 1, 0);
        x.dues("asKind 6", 40, 1, 2, 1, 1).asks("asKind 6 0").dues("of 0", 1, 4).dues("of 1", 2, 6).dues("best", 200, 1, 10, 1, 1);
        Edges.says("BEYOND.");
        new Run().range("asKind ? 0", 0, 6, BEYOND).range("asKind 0 ?", 0, 4, BEYOND);
        Scenes.full().range("asKind ? 4", 0, 6, BEYOND).asks("asKind 0 4");
        Scenes.rich().range("asKind ? 4", 0, 6, BEYOND).range("asKind 6 ?", 0, 4, BEYOND).refused("asKind 7 5", BEYOND);
    }

    private static void p27() {
        Edges.says("THE TERM becomes WHERE: HOW.");
        new Run().due("settle", 0).dues("termOf", 0, 1);
        new Run("term 20 1").due("settle", 0).dues("termOf", 0, 1);
        new Run("follower 63 1").due("settle", 1).dues("termOf", 7, 2).due("settle", 1).dues("termOf", 7, 2);
        new Run("follower 0 1", "most 3").due("settle", 0).dues("termOf", 3, 1).refused("most 2", Run.STATE);
        new Run("follower 10 1", "most 10").due("settle", 1).dues("termOf", 10, 1);
        new Run("follower 10 1", "good 0 0 0 0", "good 0 0 2 -9", "term 5 1").due("settle", 2).dues("termOf", 0, 1);
        new Run("follower 10 1", "good 0 0 0 7", "good 0 0 1 2", "good 0 0 2 -9", "most 4").due("settle", 2).dues("termOf", 7, 2);
    }

    private static void p28() {
        Edges.says("The KIND of which a FOLLOWER must be so that BEST OF ALL is greatest;");
        // What it takes costs the leader 9 each: best is one that turns ahead of MOST.
        String[] dear = {"follower 2 1", "good 0 0 0 5", "good 0 0 2 -9", "most 2"};
        new Run(dear).due("kindFor 0", 6).dues("of 0", 0, 2);
        new Run("follower 0 1").due("kindFor 0", 0);
        Scenes.full().asks("kindFor 0").asks("kindFor 1").asks("kindFor 2");
        Edges.says("of several the least.");
        new Run(dear).make("become 0 0", "most 3").due("kindFor 0", 3);
        new Run(dear).make("become 0 4", "most 2").due("kindFor 0", 4);
        new Run("follower 69 1", "budget 0 0 0").due("kindFor 0", 0).due("of 0 0", 6);
        Edges.says("BEYOND.");
        new Run().refused("kindFor 0", BEYOND).refused("kindFor -1", BEYOND);
        Scenes.rich().range("kindFor ?", 0, 1, BEYOND);
        Scenes.full().range("kindFor ?", 0, 2, BEYOND);
    }

    private static void p29() {
        Edges.says("The TOLL of a GOOD for that;");
        new Run("follower 0 1", "most 3").due("tollFor 0 0", 3).due("goodOf 0 0 1", 1);
        new Run("follower 0 1", "most 5").due("tollFor 0 0", 2);
        // Good 1 is kept away, good 2 is worth 20: at 6, MOST, it still takes it for 3.
        new Run("follower 0 3", "bind 0 178 0", "good 0 2 0 20", "most 6").due("tollFor 0 0", 0).due("tollFor 0 1", 0).due("tollFor 0 2", 3);
        Scenes.full().asks("tollFor 0 1").asks("tollFor 1 2").asks("tollFor 2 0");
        // What is taken costs 9 each up to MOST, but not with a toll for which it turns ahead of that.
        new Run("follower 0 1", "good 0 0 0 5", "good 0 0 2 -9", "most 2").due("tollFor 0 0", 3);
        Edges.says("of several the least.");
        new Run("follower 0 1").due("tollFor 0 0", 1);
        new Run("follower 0 3", "good 0 2 1 3", "budget 0 0 0").due("tollFor 0 2", 0).due("goodOf 0 2 1", 3);
        Edges.says("BEYOND.");
        new Run().refused("tollFor 0 0", BEYOND);
        new Run("follower 0 1").range("tollFor 0 ?", 0, 0, BEYOND);
        Scenes.rich().range("tollFor ? 0", 0, 1, BEYOND).range("tollFor 0 ?", 0, 1, BEYOND).range("tollFor 1 ?", 0, 2, BEYOND);
    }

    private static void p30() {
        Edges.says("The ROW (not ROW 0) without which BEST OF ALL is more than it is, and most;");
        new Run("follower 0 1", "bind 0 196 5").due("without 0", 1).due("of 0 3", 2);
        new Run("follower 0 1", "bind 0 196 5", "bind 0 196 5", "bind 0 196 3").due("without 0", 3).due("of 0 3", 4).due("best 0", 30);
        // Without row 1 good 0 comes in, without row 2 good 1, which is worth more.
        Run x = new Run("follower 0 2", "good 0 1 0 11", "bind 0 220 0", "bind 0 178 0");
        x.due("without 0", 2).make("good 0 0 0 12").due("without 0", 1);
        Scenes.full().asks("without 0").asks("without 1").asks("without 2");
        Edges.says("of several the least;");
        new Run("follower 0 2", "bind 0 220 0", "bind 0 178 0").due("without 0", 1);
        new Run("follower 0 3", "bind 0 220 0", "bind 0 172 0", "bind 0 178 0").due("without 0", 1).make("good 0 0 0 9").due("without 0", 2);
        Edges.says("-1: none such.");
        new Run("follower 0 1").due("without 0", -1);
        new Run("follower 0 1", "budget 0 0 0").due("without 0", -1);
        new Run("follower 0 1", "bind 0 196 10").due("without 0", -1);
        new Run("follower 0 1", "bind 0 196 3", "bind 0 196 3").due("without 0", -1);
        new Run("follower 0 1", "bind 0 196 3", "budget 0 0 0").due("without 0", -1);
        // Without it the leader has less.
        new Run("follower 0 1", "good 0 0 2 -9", "most 1", "bind 0 196 3").due("without 0", -1);
        // Nor is it asked what would be without THE BUDGET, or without a ROW behind the last one.
        new Run("follower 0 1", "good 0 0 2 -9", "most 1").due("without 0", -1).due("best 0", -80);
        Edges.says("BEYOND.");
        new Run().refused("without 0", BEYOND).refused("without -1", BEYOND);
        Scenes.rich().range("without ?", 0, 1, BEYOND);
        Scenes.full().range("without ?", 0, 2, BEYOND);
    }

    private static void p31() {
        Edges.says("The least MOST (1 to 40) with which BEST OF ALL is v or more.");
        Run x = new Run("follower 0 1");
        x.due("mostFor -9999", 1).due("mostFor -1", 1).due("mostFor 0", 1).due("mostFor 1", 1).due("mostFor 10", 1).due("mostFor 11", 2);
        x.due("mostFor 90", 9).due("mostFor 91", 10).due("mostFor 100", 10).due("count 1", 20);
        // 10 each is neared at 10, where MOST may be.
        new Run("follower 10 1").due("mostFor 100", 10).due("mostFor 99", 10);
        // What is neared from above counts only if MOST is more.
        new Run("follower 10 1", "good 0 0 0 8", "good 0 0 1 2", "good 0 0 2 -9").due("mostFor -10", 4).due("mostFor -9", 5).due("mostFor 0", 5)
            .due("mostFor -70", 1).due("mostFor -69", 2);
        // Fractions: 10/3 of the term.
        new Run("follower 0 1", "budget 0 18 10").due("mostFor 3", 1).due("mostFor 4", 2).due("mostFor 6", 2).due("mostFor 7", 3).due("mostFor 33", 10);
        // 5 of the term, up to 60, beyond MOST as it is; THE TERM doesn't count.
        x = new Run("follower 0 2", "good 0 0 0 20", "good 0 0 1 0", "good 0 1 0 0", "budget 0 0 20", "bind 0 196 0", "term 20 1");
        x.due("mostFor 195", 39).due("mostFor 196", 40).due("mostFor 200", 40).due("mostFor 5", 1);
        Scenes.full().asks("mostFor -9999").asks("mostFor 1");
        Edges.says("BEYOND: v isn't -9999 to 9999.");
        x.from("mostFor ?", -9999, BEYOND).refused("mostFor 10000", BEYOND).refused("mostFor MAX", BEYOND).refused("mostFor 9999", NONE);
        new Run().from("mostFor ?", -9999, BEYOND).refused("mostFor 10000", BEYOND).refused("mostFor 9999", NONE);
        Scenes.rich().from("mostFor ?", -9999, BEYOND).refused("mostFor 10000", BEYOND).refused("mostFor 9999", NONE);
        Edges.says("NONE.");
        x.due("mostFor 200", 40).refused("mostFor 201", NONE);
        new Run().due("mostFor 0", 1).refused("mostFor 1", NONE);
        new Run("follower 0 1").due("mostFor 100", 10).refused("mostFor 101", NONE);
    }
}
