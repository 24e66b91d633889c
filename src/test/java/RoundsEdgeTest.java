import java.math.BigInteger;

/** Promises 32 to 40: the boundary cases of each sentence about rounds, the ledger, and rows of pieces. */
public final class RoundsEdgeTest {
    private static final int BEYOND = Run.BEYOND;
    private static final int NONE = Run.NONE;
    private static final int STATE = Run.STATE;
    private static final int MISSING = Run.MISSING;
    private static final int OVER = Run.OVER;
    private static final long MAX = Long.MAX_VALUE;
    private static final long MIN = Long.MIN_VALUE;

    public static void main(String[] args) {
        Edges.promises(32, RoundsEdgeTest::p32, RoundsEdgeTest::p33, RoundsEdgeTest::p34, RoundsEdgeTest::p35,
            RoundsEdgeTest::p36, RoundsEdgeTest::p37, RoundsEdgeTest::p38, RoundsEdgeTest::p39, RoundsEdgeTest::p40);
    }

    /** So many rounds more, by twenties as far as they go; the rest at once. */
    private static Run rounds(Run x, int number) {
        for (int i = 0; i < number / 20; i++) {
            x.make("loose 20");
        }
        return number % 20 == 0 ? x : x.make("loose " + number % 20);
    }

    private static void p32() {
        Edges.says("A ROUND: TOTAL, cut.");
        new Run().due("round", 0).due("count 2", 1).due("count 7", 0);
        Run x = new Run("follower 0 1", "good 0 0 2 -3");
        x.due("round", -30).due("count 7", -30).make("term 7 4").due("round", -12).due("count 7", -42).due("count 2", 2);
        // Just below and above 0, and 1, it is cut toward 0.
        x = new Run("follower 0 1", "good 0 0 2 -1");
        x.make("term 1999999 2000000").due("round", 0).make("term 2000001 2000000").due("round", 0).due("count 7", 0);
        x.make("term 9 10").due("round", -1).make("term 1799999 2000000").due("round", -1).make("term 1800001 2000000").due("round", 0);
        x.make("term 11 10").due("round", 1).due("count 7", -1).due("count 2", 6).dues("termOf", 11, 10).due("count 3", 1);
        Edges.says("STATE: ROUND is 9999.");
        rounds(new Run(), 9998).due("count 2", 9998).due("round", 0).due("count 2", 9999).due("round", Run.findingOf("round", STATE)).due("count 2", 9999);
        rounds(new Run(), 9999).refused("round", STATE);
        Edges.says("OVER: LEDGER would be no long.");
        Scenes.tenEach(MAX - 10).due("round", 10).due("book 0 0", MAX).refused("round", OVER);
        Scenes.tenEach(MAX - 9).refused("round", OVER).due("count 2", 0).due("book 0 -1", MAX - 10).due("round", 10);
        Scenes.tenEach(MAX).refused("round", OVER).make("good 0 0 2 0").due("round", 0).due("book 0 0", MAX);
        Scenes.tenEach(MIN + 10).make("good 0 0 2 -1").due("round", -10).due("book 0 0", MIN).refused("round", OVER);
        Scenes.tenEach(MIN + 9).make("good 0 0 2 -1").refused("round", OVER).make("good 0 0 2 0").due("round", 0);
        // The other finding is asked ahead of this one.
        long full = MAX - 99990;
        rounds(new Run("follower 0 1", "good 0 0 1 0", "good 0 0 2 1"), 9999).due("book 0 " + full, MAX).refused("round", STATE);
        rounds(new Run("follower 0 1", "good 0 0 1 0", "good 0 0 2 1"), 9998).due("book 0 " + (full + 10), MAX).refused("round", OVER);
    }

    /** What a draw makes of z, by longs. */
    private static long drawn(long z) {
        return BigInteger.valueOf(z).multiply(BigInteger.valueOf(1103515245)).add(BigInteger.valueOf(12345)).intValue();
    }

    private static long term(long z, int most) {
        return Math.floorMod(z, 1L << 32) / 256 % (most + 1);
    }

    private static void p33() {
        Edges.says("n times (1 to 20) a draw: THE TERM is its rest by MOST and 1; then a ROUND: TOTAL, cut, of the last one.");
        for (long z : new long[] {1, 0, -1, Integer.MAX_VALUE, Integer.MIN_VALUE, -1000001, 1103527590}) {
            for (int most : new int[] {1, 2, 20, 40}) {
                Run x = new Run("follower 0 1", "good 0 0 0 20", "good 0 0 2 -1", "most " + most, "seed " + z);
                long sum = 0;
                long now = z;
                for (int i = 0; i < 20; i++) {
                    now = drawn(now);
                    sum += term(now, most) > 20 ? 0 : 10 * term(now, most) - 10;
                }
                x.due("loose 20", term(now, most) > 20 ? 0 : 10 * term(now, most) - 10);
                x.due("count 3", now).due("count 7", sum).due("count 2", 20).dues("termOf", term(now, most), 1);
                now = drawn(now);
                x.due("loose 1", term(now, most) > 20 ? 0 : 10 * term(now, most) - 10);
                x.due("count 3", now).due("count 2", 21).dues("termOf", term(now, most), 1);
            }
        }
        // 5, then 14 by 21; a ROUND is of the term that was drawn, not of the one that was.
        new Run("follower 0 1", "term 1 3").due("loose 1", 50).due("termOf 0", 5).due("loose 1", 0).due("termOf 0", 14).due("count 7", 50);
        Edges.says("BEYOND.");
        new Run().range("loose ?", 1, 20, BEYOND);
        Scenes.rich().range("loose ?", 1, 20, BEYOND);
        Edges.says("STATE: ROUND would be above 9999.");
        rounds(new Run(), 9980).refused("loose 20", STATE).due("loose 19", 0).due("count 2", 9999);
        rounds(new Run(), 9979).due("loose 20", 0).due("count 2", 9999).due("loose 1", Run.findingOf("loose", STATE)).due("count 2", 9999);
        rounds(new Run(), 9980).due("loose 20", Run.findingOf("loose", STATE)).due("count 2", 9980).due("status 4", 1);
        rounds(new Run(), 9999).refused("loose 1", STATE).refused("loose 20", STATE);
        // What is beyond is asked ahead of that.
        rounds(new Run(), 9999).refused("loose 0", BEYOND).refused("loose 21", BEYOND).refused("loose MAX", BEYOND);
        Edges.says("OVER: in any of them.");
        Scenes.tenEach(MAX - 200).due("loose 20", 10).due("book 0 0", MAX).refused("loose 1", OVER);
        Scenes.tenEach(MAX - 199).make("term 1 3", "seed 77").refused("loose 20", OVER).due("loose 19", 10).due("book 0 0", MAX - 9);
        Scenes.tenEach(MIN + 200).make("good 0 0 2 -1").due("loose 20", -10).due("book 0 0", MIN).refused("loose 1", OVER);
        Scenes.tenEach(MIN + 199).make("good 0 0 2 -1", "term 1 3").refused("loose 20", OVER).refused("loose 20", OVER).due("loose 19", -10);
        // 40 more, then 10 less: the first is too much, though both together were not.
        Run x = new Run("follower 0 1", "follower 0 1", "good 1 0 1 0", "good 1 0 2 -1", "term 1 3", "book 0 " + (MAX - 39));
        x.refused("loose 2", OVER).refused("loose 1", OVER).dues("termOf", 1, 3).due("book 0 -1", MAX - 40).due("loose 2", -10).due("book 0 0", MAX - 10);
        // The other findings are asked ahead of this one.
        long full = MAX - 99800;
        rounds(new Run("follower 0 1", "good 0 0 1 0", "good 0 0 2 1"), 9980).due("book 0 " + full, MAX).refused("loose 20", STATE).refused("loose 19", OVER);
        Scenes.tenEach(MAX).refused("loose 0", BEYOND).refused("loose 21", BEYOND);
    }

    private static Run ledger(long v) {
        return new Run().due("book 0 " + v, v);
    }

    private static void p34() {
        Edges.says("LEDGER becomes v more (what 0), v times it (1), its quotient by v, cut (2): LEDGER then.");
        ledger(MAX).due("book 0 0", MAX).due("book 0 " + MIN, -1).due("book 0 " + MIN, Run.findingOf("book", OVER)).due("book 0 " + (MIN + 1), MIN);
        ledger(MIN).due("book 0 " + MAX, -1).due("book 0 0", -1);
        ledger(MAX).due("book 1 1", MAX).due("book 1 -1", -MAX).due("book 1 0", 0).due("book 1 " + MIN, 0).due("book 1 " + MAX, 0);
        ledger(1).due("book 1 " + MIN, MIN).due("book 1 1", MIN).due("book 1 0", 0);
        ledger(3037000499L).due("book 1 3037000499", 9223372030926249001L);
        ledger(1L << 62).due("book 1 -2", MIN);
        ledger(-7).due("book 2 2", -3).due("book 2 -2", 1).due("book 2 2", 0).due("book 2 5", 0).due("book 2 " + MIN, 0);
        ledger(7).due("book 2 -2", -3);
        ledger(MIN).due("book 2 1", MIN).due("book 2 2", MIN / 2).due("book 2 " + MIN, 0);
        ledger(MIN).due("book 2 " + MIN, 1);
        ledger(MIN).due("book 2 " + MAX, -1);
        ledger(MAX).due("book 2 -1", -MAX).due("book 2 -1", MAX).due("book 2 " + MIN, 0);
        ledger(4294967296L).due("count 7", Run.findingOf("count", OVER)).due("book 2 4294967296", 1).due("count 7", 1);
        Edges.says("BEYOND.");
        Scenes.rich().range("book ? 2", 0, 2, BEYOND);
        new Run().range("book ? 1", 0, 2, BEYOND);
        Edges.says("NONE: by 0.");
        new Run().refused("book 2 0", NONE);
        ledger(MIN).refused("book 2 0", NONE);
        Scenes.rich().refused("book 2 0", NONE);
        // What is beyond is asked ahead of that.
        new Run().refused("book 3 0", BEYOND).refused("book -1 0", BEYOND).refused("book MAX 0", BEYOND);
        Edges.says("OVER: it would be no long.");
        ledger(MAX).refused("book 0 1", OVER).refused("book 0 " + MAX, OVER).refused("book 1 2", OVER).refused("book 1 " + MIN, OVER).refused("book 1 " + MAX, OVER);
        ledger(MIN).refused("book 0 -1", OVER).refused("book 0 " + MIN, OVER).refused("book 1 -1", OVER).refused("book 1 2", OVER).refused("book 1 " + MIN, OVER);
        ledger(MIN).refused("book 2 -1", OVER);
        ledger(-1).refused("book 1 " + MIN, OVER).due("book 1 " + MAX, -MAX);
        ledger(1L << 62).refused("book 1 2", OVER);
        ledger(3037000500L).refused("book 1 3037000500", OVER).refused("book 1 -3037000500", OVER);
        ledger(4294967296L).refused("book 1 4294967296", OVER).refused("book 1 2147483648", OVER).due("book 1 -2147483648", MIN);
        ledger(MAX).refused("book 3 1", BEYOND).refused("book -1 " + MAX, BEYOND);
    }

    private static void p35() {
        Edges.says("z becomes v: what it was.");
        Run x = new Run().due("seed MIN", 1).due("seed MAX", Integer.MIN_VALUE).due("seed 0", Integer.MAX_VALUE).due("count 3", 0);
        // It may be as low as a finding, and is none.
        x.due("seed -1000001", 0).due("seed -1000008", -1000001).due("count 3", -1000008).due("seed 1", -1000008).due("status -1", 0);
        x.due("count 2", 0).dues("termOf", 0, 1);
    }

    private static void p36() {
        Edges.says("KINDS of which a FOLLOWER could be (with its m) so that for TERMS 0, 1, .. (beyond MOST, too) GAIN of its ANSWER, cut, is as numbers of a SHEET tell (-999: any), as a set (what 0), how many (1).");
        long[] forty = new long[40];
        for (int t = 0; t <= 10; t++) {
            forty[t] = 10 * t;
        }
        Run x = Scenes.sheet(new Run("follower 20 1", "most 1"), 0, 1, forty);
        x.dues("fits 0 0", 33, 2).make("write 0 39 1").dues("fits 0 0", 0, 0).make("write 0 39 -999").dues("fits 0 0", 33, 2);
        x.make("write 0 10 0").dues("fits 0 0", 2 + 4 + 16, 3).due("of 0 0", 2).due("count 1", 1).dues("termOf", 0, 1);
        // Nothing is told, or anything will do.
        x = new Run("follower 37 2", "sheet 0 1 0", "sheet 1 1 40").dues("fits 0 0", 127, 7);
        for (int i = 0; i < 40; i++) {
            x.make("write 1 " + i + " -999");
        }
        x.dues("fits 1 0", 127, 7).make("write 1 0 -998").dues("fits 1 0", 0, 0).make("write 1 0 -1000").dues("fits 1 0", 0, 0);
        // Bytes have no -999: it is 25 there.
        new Run("follower 0 1", "sheet 0 0 1").dues("fits 0 0", 127, 7).make("write 0 0 -999").dues("fits 0 0", 0, 0);
        // A number of which the lowest bits alone would do.
        new Run("follower 0 1", "sheet 0 2 1").dues("fits 0 0", 127, 7).make("write 0 0 4294967296").dues("fits 0 0", 0, 0)
            .make("write 0 0 " + MIN).dues("fits 0 0", 0, 0).make("write 0 0 -999").dues("fits 0 0", 127, 7);
        // m 9: DULL turns at 1, GRIM at 1/2.
        Scenes.sheet(new Run("follower 29 1"), 2, 1, 0, 10).dues("fits 2 0", 1 + 2 + 4 + 8 + 32, 5);
        Scenes.sheet(new Run("follower 28 1"), 2, 1, 0, 10).dues("fits 2 0", 1 + 2 + 4 + 8 + 16 + 32, 6);
        // -20/3 and -10/3, cut toward 0.
        String[] thirds = {"follower 0 1", "budget 0 18 10", "good 0 0 2 -2"};
        Scenes.sheet(new Run(thirds), 3, 0, -6, -3, 0).dues("fits 3 0", 127, 7);
        Scenes.sheet(new Run(thirds), 3, 0, -7, -3, 0).dues("fits 3 0", 0, 0);
        Scenes.sheet(new Run(thirds), 3, 0, -6, -4, 0).dues("fits 3 0", 0, 0);
        Scenes.full().asks("fits 0 0 0").asks("fits 1 1 1").asks("fits 2 2 0");
        Edges.says("BEYOND.");
        x = Scenes.rich().make("sheet 3 2 0");
        x.range("fits ? 0 0", 0, 3, BEYOND).range("fits 0 ? 0", 0, 1, BEYOND).range("fits 0 0 ?", 0, 1, BEYOND);
        new Run("sheet 0 1 2").refused("fits 0 0 0", BEYOND);
        Edges.says("MISSING.");
        Scenes.rich().refused("fits 3 0 0", MISSING).refused("fits 3 1 1", MISSING);
        // What is beyond is asked ahead of that.
        Scenes.rich().refused("fits 3 2 0", BEYOND).refused("fits 3 0 2", BEYOND).refused("fits 3 0 -1", BEYOND).refused("fits 4 2 2", BEYOND);
    }

    private static void p37() {
        Edges.says("ROWS OF PIECES become all PIECES, each as six numbers (as of piece()): how many.");
        new Run().due("prove", 1).due("count 4", 1).dues("row 0", 0, 1, 0, 1, 0, 1);
        Run x = new Run("follower 0 1", "budget 0 18 10", "good 0 0 2 -1").due("prove", 2).due("count 4", 2);
        x.dues("row 0", 10, 3, -10, 3, 30, 1).dues("row 1", 0, 1, 0, 1, 0, 1);
        // Fewer, more, and those that were altered anew.
        x.make("most 1").due("prove", 1).due("count 4", 1).dues("row 0", 10, 3, -10, 3, 0, 1).refused("row 1 0", BEYOND);
        x.make("alter 0 0 9", "most 20").due("prove", 2).dues("row 0", 10, 3, -10, 3, 30, 1).dues("row 1", 0, 1, 0, 1, 0, 1);
        // As many as three followers can bring about.
        Scenes.manyBreaks().due("prove", 23).due("count 4", 23).due("judge", 0).dues("row 22", 0, 1, 0, 1, 0, 1).range("row ? 5", 0, 22, BEYOND)
            .due("alter 22 5 9", 1).due("judge", 23).range("alter ? 5 1", 0, 22, BEYOND);
        // They stay as they are told while followers change.
        x.make("become 0 30").dues("row 0", 10, 3, -10, 3, 30, 1).due("count 4", 2);
    }

    private static void p38() {
        Edges.says("Number what (0 to 5) of a ROW.");
        new Run("follower 63 1", "prove").dues("row 0", 10, 1, 0, 1, 35, 1).dues("row 1", 0, 1, 0, 1, 0, 1);
        Edges.says("BEYOND.");
        new Run().refused("row 0 0", BEYOND).refused("row -1 0", BEYOND);
        new Run("prove").range("row ? 0", 0, 0, BEYOND).range("row 0 ?", 0, 5, BEYOND);
        new Run("follower 63 1", "prove").range("row ? 5", 0, 1, BEYOND).range("row 1 ?", 0, 5, BEYOND);
        Scenes.rich().range("row ? 0", 0, Scenes.rich().ask("count 4") - 1, BEYOND).range("row 0 ?", 0, 5, BEYOND);
        // There are as many as were proved, not as many as there are pieces now.
        new Run("follower 63 1", "prove", "most 1").range("row ? 0", 0, 1, BEYOND);
        new Run("follower 63 1", "most 1", "prove", "most 20").range("row ? 0", 0, 0, BEYOND);
    }

    private static void p39() {
        Edges.says("It becomes v: what it was.");
        Run x = new Run("follower 63 1", "prove").due("alter 0 4 " + MIN, 35).due("alter 0 4 " + MAX, MIN).due("row 0 4", MAX);
        // It may be as low as a finding, and is none.
        x.due("alter 0 4 -1000000000000000001", MAX).due("row 0 4", -1000000000000000001L).due("alter 0 4 0", -1000000000000000001L);
        x.due("alter 1 5 7", 1).due("row 1 5", 7).due("row 0 5", 1).due("row 1 4", 0).due("piece 1 5", 1).due("status -1", 0);
        Edges.says("BEYOND.");
        new Run().refused("alter 0 0 5", BEYOND).refused("alter -1 0 5", BEYOND);
        new Run("prove").range("alter ? 0 5", 0, 0, BEYOND).range("alter 0 ? 5", 0, 5, BEYOND);
        Scenes.rich().range("alter ? 0 5", 0, Scenes.rich().ask("count 4") - 1, BEYOND).range("alter 0 ? " + MIN, 0, 5, BEYOND);
    }

    private static void p40() {
        Edges.says("0: ROWS OF PIECES are all PIECES as they are;");
        new Run("prove").due("judge", 0);
        Run x = new Run("follower 0 1", "prove").due("judge", 0).make("term 5 1", "seed 3").due("judge", 0);
        // Another kind may make the same pieces.
        x.make("become 0 10").due("judge", 0);
        Edges.says("else 1 and the first that isn't, lacks, or is too many.");
        new Run().due("judge", 1);
        new Run("follower 0 1").due("judge", 1);
        for (int k = 0; k < 2; k++) {
            for (int what = 0; what < 6; what++) {
                new Run("follower 0 1", "prove", "alter " + k + " " + what + " 2").due("judge", k + 1)
                    .make("prove").due("judge", 0);
            }
        }
        // Of two that aren't the first; one that is the same number, but not in lowest terms, isn't.
        new Run("follower 0 1", "prove", "alter 1 3 -1", "alter 0 3 -1").due("judge", 1).make("alter 0 3 1").due("judge", 2);
        new Run("follower 0 1", "prove", "alter 0 4 200", "alter 0 5 2").due("judge", 1);
        // 4294967296 more, of which the lowest bits are alike.
        new Run("follower 0 1", "prove", "alter 0 4 4294967396").due("judge", 1);
        // Too many, lacking, each behind those that are as they are; or one of those isn't.
        new Run("follower 0 1", "prove", "most 10").due("judge", 2);
        new Run("follower 0 1", "most 10", "prove", "most 20").due("judge", 2);
        new Run("follower 0 1", "prove", "most 9").due("judge", 1);
        new Run("follower 0 1", "most 9", "prove", "most 20").due("judge", 1);
        new Run("follower 0 1", "follower 30 1", "prove").due("judge", 0).make("most 10").due("judge", 3).make("most 5").due("judge", 2);
    }
}
