/** Promises 41 to 50: the boundary cases of each sentence about sheets, spots, images and counts. */
public final class SheetsEdgeTest {
    private static final int BEYOND = Run.BEYOND;
    private static final int FULL = Run.FULL;
    private static final int KIND = Run.KIND;
    private static final int NONE = Run.NONE;
    private static final int STATE = Run.STATE;
    private static final int MISSING = Run.MISSING;
    private static final int SIZE = Run.SIZE;
    private static final int OVER = Run.OVER;

    public static void main(String[] args) {
        Edges.promises(41, SheetsEdgeTest::p41, SheetsEdgeTest::p42, SheetsEdgeTest::p43, SheetsEdgeTest::p44, SheetsEdgeTest::p45,
            SheetsEdgeTest::p46, SheetsEdgeTest::p47, SheetsEdgeTest::p48, SheetsEdgeTest::p49, SheetsEdgeTest::p50);
    }

    private static void p41() {
        Edges.says("A SHEET becomes a row of n numbers of a sort, all 0, or MISSING (sort -1; n doesn't count): n (0).");
        for (int sort = 0; sort < 3; sort++) {
            Run x = new Run().due("sheet 0 " + sort + " 0", 0).refused("item 0 0", BEYOND).due("sheet 0 " + sort + " 1", 1).due("item 0 0", 0);
            x.make("write 0 0 5").due("sheet 0 " + sort + " 40", 40);
            for (int i = 0; i < 40; i++) {
                x.due("item 0 " + i, 0);
            }
            // The same again is all 0 again; then it is MISSING, whatever n.
            x.make("write 0 39 5").due("sheet 0 " + sort + " 40", 40).due("item 0 39", 0).due("sheet 0 -1 0", 0).refused("item 0 0", MISSING);
            x.due("sheet 0 -1 40", 0).due("sheet 0 -1 41", 0).due("sheet 0 -1 -1", 0).due("sheet 0 -1 MIN", 0).due("sheet 0 -1 MAX", 0);
            x.due("status -1", 0);
        }
        Edges.says("BEYOND: no such SHEET, sort.");
        new Run().range("sheet ? 0 5", 0, 3, BEYOND).range("sheet 0 ? 5", -1, 2, BEYOND);
        Scenes.rich().range("sheet ? 0 5", 0, 3, BEYOND).range("sheet 0 ? 5", -1, 2, BEYOND).range("sheet ? -1 5", 0, 3, BEYOND);
        Edges.says("SIZE: n is below 0.");
        for (int sort = 0; sort < 3; sort++) {
            Scenes.rich().from("sheet 2 " + sort + " ?", 0, SIZE).from("sheet 3 " + sort + " ?", 0, SIZE);
        }
        // What is beyond is asked ahead of that.
        Scenes.rich().refused("sheet 4 0 -1", BEYOND).refused("sheet -1 0 -1", BEYOND).refused("sheet 0 3 -1", BEYOND);
        Scenes.rich().refused("sheet 0 -2 -1", BEYOND).refused("sheet -1 -1 -1", BEYOND);
        Edges.says("BEYOND: above 40.");
        for (int sort = 0; sort < 3; sort++) {
            Scenes.rich().upTo("sheet 2 " + sort + " ?", 40, BEYOND).upTo("sheet 3 " + sort + " ?", 40, BEYOND);
        }
    }

    /** What is left of a number in a sheet of a sort. */
    private static void left(int sort, long v, long due) {
        new Run("sheet 1 " + sort + " 3").due("write 1 1 " + v, 1).due("item 1 1", due).due("item 1 0", 0).due("item 1 2", 0);
    }

    private static void p42() {
        Edges.says("Number i of it becomes v (its lowest bits): 1.");
        long[] bytes = {127, 127, 128, -128, 255, -1, 256, 0, -128, -128, -129, 127, Long.MIN_VALUE, 0, Long.MAX_VALUE, -1, 4294967297L, 1};
        for (int i = 0; i < bytes.length; i += 2) {
            left(0, bytes[i], bytes[i + 1]);
        }
        long[] ints = {2147483647L, 2147483647L, 2147483648L, -2147483648L, 4294967295L, -1, 4294967296L, 0, -2147483648L, -2147483648L,
            -2147483649L, 2147483647L, Long.MIN_VALUE, 0, Long.MAX_VALUE, -1, 128, 128};
        for (int i = 0; i < ints.length; i += 2) {
            left(1, ints[i], ints[i + 1]);
        }
        for (long v : new long[] {Long.MIN_VALUE, Long.MAX_VALUE, 0, -1, 2147483648L, -1000000000000000001L}) {
            left(2, v, v);
        }
        new Run("sheet 0 2 40").due("write 0 0 7", 1).due("write 0 39 8", 1).due("item 0 0", 7).due("item 0 39", 8).due("item 0 38", 0);
        Edges.says("BEYOND: no such SHEET.");
        Scenes.rich().make("sheet 3 2 1").range("write ? 0 5", 0, 3, BEYOND);
        new Run().refused("write 4 0 5", BEYOND).refused("write -1 0 5", BEYOND);
        Edges.says("MISSING.");
        for (int s = 0; s < 4; s++) {
            new Run().refused("write " + s + " 0 5", MISSING).refused("write " + s + " -1 5", MISSING).refused("write " + s + " 40 5", MISSING);
        }
        Scenes.rich().refused("write 3 0 5", MISSING).make("sheet 0 -1 0").refused("write 0 0 5", MISSING);
        Edges.says("BEYOND: no such number.");
        Scenes.rich().range("write 0 ? 5", 0, 2, BEYOND).range("write 1 ? 5", 0, 4, BEYOND).range("write 2 ? 5", 0, 3, BEYOND);
        new Run("sheet 0 0 0").refused("write 0 0 5", BEYOND).refused("write 0 -1 5", BEYOND);
        new Run("sheet 0 2 40").range("write 0 ? 5", 0, 39, BEYOND);
    }

    private static void p43() {
        Edges.says("Number i of it.");
        Scenes.sheet(new Run(), 3, 2, 5, Long.MIN_VALUE, Long.MAX_VALUE).dues("item 3", 5, Long.MIN_VALUE, Long.MAX_VALUE);
        // It may be as low as a finding, and is none.
        Scenes.sheet(new Run(), 0, 2, -1000000000000000001L, -1000000000000000006L).dues("item 0", -1000000000000000001L, -1000000000000000006L).due("status -1", 0);
        Edges.says("BEYOND, MISSING, BEYOND likewise.");
        Run x = Scenes.rich();
        x.range("item 0 ?", 0, 2, BEYOND).range("item 1 ?", 0, 4, BEYOND).range("item 2 ?", 0, 3, BEYOND);
        x.refused("item 3 0", MISSING).refused("item 3 -1", MISSING).refused("item 3 40", MISSING);
        x.make("sheet 3 0 1").range("item ? 0", 0, 3, BEYOND);
        new Run().refused("item 4 0", BEYOND).refused("item -1 0", BEYOND).refused("item 0 MAX", MISSING);
        new Run("sheet 0 0 0").refused("item 0 0", BEYOND).refused("item 0 -1", BEYOND);
        new Run("sheet 0 2 40").range("item 0 ?", 0, 39, BEYOND);
    }

    /** Sheets 0 (1 to 5) and 1 (6 to 8) of ints, 2 (9, 10) of longs, 3 MISSING. */
    private static Run copies() {
        Run x = Scenes.sheet(new Run(), 0, 1, 1, 2, 3, 4, 5);
        return Scenes.sheet(Scenes.sheet(x, 1, 1, 6, 7, 8), 2, 2, 9, 10);
    }

    private static void p44() {
        Edges.says("n numbers of a SHEET from i on come to another one (or the same) from j on, as they all were: n.");
        copies().due("copy 0 0 1 0 3", 3).dues("item 1", 1, 2, 3).dues("item 0", 1, 2, 3, 4, 5);
        copies().due("copy 0 2 1 0 3", 3).dues("item 1", 3, 4, 5);
        copies().due("copy 0 4 1 2 1", 1).dues("item 1", 6, 7, 5);
        // Over itself, upward, downward, as it is, and nothing.
        copies().due("copy 0 0 0 1 4", 4).dues("item 0", 1, 1, 2, 3, 4);
        copies().due("copy 0 1 0 0 4", 4).dues("item 0", 2, 3, 4, 5, 5);
        copies().due("copy 0 0 0 0 5", 5).dues("item 0", 1, 2, 3, 4, 5);
        copies().due("copy 0 5 1 3 0", 0).due("copy 0 0 0 5 0", 0).due("copy 1 3 1 0 0", 0).dues("item 0", 1, 2, 3, 4, 5).dues("item 1", 6, 7, 8);
        new Run("sheet 0 0 0", "sheet 1 0 0").due("copy 0 0 1 0 0", 0).due("copy 0 0 0 0 0", 0);
        new Run("sheet 0 2 40", "sheet 1 2 40", "write 0 39 " + Long.MIN_VALUE).due("copy 0 0 1 0 40", 40).due("item 1 39", Long.MIN_VALUE);
        // Two rows stay two: what is written in one later isn't in the other.
        copies().make("copy 0 0 1 0 3", "write 0 0 99").due("item 1 0", 1);
        Edges.says("BEYOND: no such SHEET (either).");
        copies().make("sheet 2 1 1", "sheet 3 1 1").range("copy ? 0 0 0 1", 0, 3, BEYOND).range("copy 0 0 ? 0 1", 0, 3, BEYOND);
        copies().refused("copy 4 0 3 0 1", BEYOND).refused("copy 3 0 4 0 1", BEYOND).refused("copy -1 0 -1 0 1", BEYOND).refused("copy 4 -1 2 -1 -1", BEYOND);
        Edges.says("MISSING.");
        copies().refused("copy 3 0 0 0 1", MISSING).refused("copy 0 0 3 0 1", MISSING).refused("copy 3 0 3 0 0", MISSING);
        // It is asked ahead of sorts and numbers.
        copies().refused("copy 3 -1 2 0 1", MISSING).refused("copy 0 9 3 9 9", MISSING).refused("copy 0 0 3 0 -1", MISSING);
        Edges.says("KIND: unlike sorts.");
        copies().refused("copy 0 0 2 0 1", KIND).refused("copy 2 0 0 0 1", KIND).refused("copy 2 0 1 0 0", KIND);
        for (int one = 0; one < 3; one++) {
            for (int two = 0; two < 3; two++) {
                Run x = new Run("sheet 0 " + one + " 2", "sheet 1 " + two + " 2");
                if (one == two) {
                    x.due("copy 0 0 1 0 2", 2);
                } else {
                    x.refused("copy 0 0 1 0 2", KIND).refused("copy 0 0 1 0 0", KIND);
                }
            }
        }
        // It is asked ahead of numbers.
        copies().refused("copy 0 -1 2 0 1", KIND).refused("copy 0 0 2 0 9", KIND).refused("copy 0 0 2 -1 -1", KIND);
        Edges.says("BEYOND: one has not so many, or i, j, n is below 0.");
        copies().range("copy 0 ? 1 0 1", 0, 4, BEYOND).range("copy 0 0 1 ? 1", 0, 2, BEYOND).range("copy 0 0 1 0 ?", 0, 3, BEYOND);
        copies().range("copy 1 0 0 0 ?", 0, 3, BEYOND).range("copy 0 3 0 0 ?", 0, 2, BEYOND).range("copy 0 0 0 3 ?", 0, 2, BEYOND);
        copies().range("copy 0 ? 1 0 0", 0, 5, BEYOND).range("copy 0 0 1 ? 0", 0, 3, BEYOND);
        // Sums that would wrap around.
        copies().refused("copy 0 MAX 1 0 MAX", BEYOND).refused("copy 0 0 1 MAX MAX", BEYOND).refused("copy 0 MAX 1 MAX 1", BEYOND);
        copies().refused("copy 0 MIN 1 MIN MIN", BEYOND).refused("copy 0 MAX 1 0 MIN", BEYOND).refused("copy 0 2 1 0 MAX", BEYOND);
    }

    private static void p45() {
        Edges.says("A SPOT holds FOLLOWER n (what 0; there must be one), THE TERM as it is (1), the row of SHEET n as it is (2; nothing, if MISSING; what is written there later is in it), nothing (3): 1.");
        for (int spot = 0; spot < 10; spot++) {
            Scenes.full().due("hold " + spot + " 0 2", 1).due("taken " + spot + " 0", 2);
        }
        Run x = Scenes.rich().due("hold 5 1 0", 1).make("term 9 1").due("taken 5 7", 1);
        x.due("hold 5 2 1", 1).due("taken 5 9", 5).make("write 1 0 8", "sheet 1 1 2").due("taken 5 9", 5).make("sheet 1 -1 0").due("taken 5 9", 5);
        // A sheet that is MISSING leaves nothing, also where there was something.
        x.due("hold 5 2 3", 1).refused("taken 5 9", MISSING).due("hold 6 2 3", 1).refused("taken 6 0", MISSING);
        x.due("hold 5 0 0", 1).due("hold 5 3 0", 1).refused("taken 5 0", MISSING).due("hold 5 3 0", 1);
        // Of what has no number n doesn't count.
        x.due("hold 5 1 -1", 1).due("taken 5 7", 9).due("hold 5 1 MAX", 1).due("hold 5 3 MIN", 1).due("hold 5 3 4", 1).due("hold 5 1 3", 1);
        // A row of no numbers is something.
        x.make("sheet 2 0 0").due("hold 5 2 2", 1).due("taken 5 8", 0);
        Edges.says("BEYOND.");
        x = Scenes.rich();
        x.range("hold ? 3 0", 0, 9, BEYOND).range("hold ? 1 0", 0, 9, BEYOND).range("hold 0 ? 0", 0, 3, BEYOND);
        x.range("hold 0 0 ?", 0, 1, BEYOND).range("hold 5 2 ?", 0, 3, BEYOND).range("hold 0 2 ?", 0, 3, BEYOND);
        x.refused("hold 10 0 0", BEYOND).refused("hold -1 2 0", BEYOND).refused("hold 0 4 MIN", BEYOND).refused("hold 10 4 9", BEYOND);
        new Run().refused("hold 0 0 0", BEYOND).due("hold 0 2 0", 1).due("count 5", 0);
        Scenes.full().range("hold 0 0 ?", 0, 2, BEYOND).make("back").refused("hold 0 0 2", BEYOND);
    }

    private static void p46() {
        Edges.says("What a SPOT holds as a FOLLOWER of a KIND (as 0 to 6), or one under it: its number; as a TERM (7): it, cut; as a row of bytes (8), ints (9), longs (10): how many numbers.");
        String[] over = {"0", "01", "02", "013", "024", "025", "0136"};
        for (int kind = 0; kind < 7; kind++) {
            Run x = new Run("follower 0 1", "follower 0 1", "follower 0 1", "hold 9 0 2", "become 2 " + kind * 10);
            for (int as = 0; as < 7; as++) {
                x.due("taken 9 " + as, over[kind].indexOf('0' + as) >= 0 ? 2 : Run.findingOf("taken", KIND));
            }
        }
        String[] terms = {"0 1", "1 2000000", "1999999 2000000", "1 1", "39999999 2000000", "20 1"};
        int[] cut = {0, 0, 0, 1, 19, 20};
        for (int i = 0; i < terms.length; i++) {
            new Run("term " + terms[i], "hold 0 1 0", "term 5 1").due("taken 0 7", cut[i]);
        }
        new Run("most 40", "term 40 1", "hold 0 1 0").due("taken 0 7", 40);
        for (int sort = 0; sort < 3; sort++) {
            for (int n : new int[] {0, 1, 40}) {
                new Run("sheet 2 " + sort + " " + n, "hold 4 2 2", "sheet 2 -1 0").due("taken 4 " + (8 + sort), n);
            }
        }
        Edges.says("BEYOND.");
        Run x = Scenes.rich();
        x.from("taken 0 ?", 0, BEYOND).upTo("taken 9 ?", 10, BEYOND).refused("taken 0 11", BEYOND).refused("taken 9 -1", BEYOND);
        for (int spot = 0; spot < 10; spot++) {
            x.make("hold " + spot + " 1 0");
        }
        x.range("taken ? 7", 0, 9, BEYOND);
        Edges.says("MISSING: nothing.");
        for (int as = 0; as <= 10; as++) {
            new Run().refused("taken 0 " + as, MISSING).refused("taken 9 " + as, MISSING);
        }
        // A follower that is none any more is nothing, until there is one of that number again.
        x = Scenes.full().make("hold 3 0 2").due("taken 3 3", 2).make("back").refused("taken 3 3", MISSING).refused("taken 3 7", MISSING);
        x.make("follower 40 1").due("taken 3 4", 2).refused("taken 3 3", KIND);
        // What is beyond is asked ahead of that.
        new Run().refused("taken 0 11", BEYOND).refused("taken 0 -1", BEYOND).refused("taken 10 11", BEYOND);
        Edges.says("KIND: it is another thing.");
        for (int as = 0; as <= 10; as++) {
            x = new Run("follower 60 1", "term 7 2", "sheet 0 0 2", "sheet 1 1 2", "sheet 2 2 2");
            x.make("hold 0 0 0", "hold 1 1 0", "hold 2 2 0", "hold 3 2 1", "hold 4 2 2");
            for (int spot = 0; spot < 5; spot++) {
                boolean is = spot == 0 ? over[6].indexOf('0' + as) >= 0 && as < 7 : as == 6 + spot;
                if (!is) {
                    x.refused("taken " + spot + " " + as, KIND);
                }
            }
        }
    }

    private static void p47() {
        Edges.says("All but SHEETS, SPOTS, ROWS OF PIECES is kept: 1.");
        // Nothing but what was there at first, too.
        Run x = new Run().due("image", 1).make("follower 0 1", "most 40", "term 33 1", "round", "book 0 9", "seed 4").due("back", 0);
        x.dues("count", 0, 20, 0, 1, 0, 0, 1, 0).dues("termOf", 0, 1).refused("of 0 0", BEYOND);
        x = Scenes.rich().make("back");
        x.dues("count", 2, 30, 1, 9).dues("termOf", 7, 2).dues("of 0", 1, 4, 2, 4).dues("of 1", 6, 9, 3, 2);
        x.dues("goodOf 0 0", 12, 1, 0).dues("goodOf 0 1", 10, 1, -4).dues("goodOf 1 0", 10, 1, 0).dues("goodOf 1 2", 10, 3, 0);
        // The others are as they were ahead of back().
        x.due("item 0 1", 7).due("item 1 4", -9).due("item 2 0", 99).refused("item 3 0", MISSING).due("row 0 4", 12345).due("taken 1 7", 1).due("count 5", 4);
        // The later image takes the place of the former.
        Scenes.rich().due("image", 1).make("most 2").due("back", 2).due("count 1", 31).due("image", 1).due("back", 2).due("count 1", 31);
    }

    private static void p48() {
        Edges.says("It becomes what was kept latest (which stays): how many FOLLOWERS.");
        Run x = new Run("follower 0 1", "bind 0 196 4", "image", "follower 10 2", "follower 20 3", "loosen 0 1", "budget 0 26 3", "good 0 0 0 1");
        for (int again = 0; again < 3; again++) {
            x.due("back", 1).dues("of 0", 0, 0, 1, 2, 2).due("rowOf 0 1 0", 1).due("rowOf 0 1 3", 4).due("goodOf 0 0 0", 10);
            x.due("amount 0 1 0 0", 4).due("best 0", 40).refused("of 1 0", BEYOND);
            x.make("bind 0 0 0", "good 0 0 0 5", "become 0 69", "follower 0 1", "most 40", "term 37 1", "round", "seed " + again);
        }
        // To more followers than there are, and to as many as there may be.
        x = new Run("image", "follower 0 1", "follower 10 2", "follower 69 3", "good 2 2 0 7", "bind 2 6 9", "back", "follower 30 1", "image", "back");
        x.due("count 0", 1).due("of 0 0", 3);
        x = Scenes.full().make("image").due("back", 3).refused("follower 0 1", FULL);
        // What is kept isn't kept by name: what came later doesn't show in it.
        x = new Run("follower 0 1", "image", "become 0 20", "back").due("of 0 0", 0);
        Edges.says("NONE: nothing is kept.");
        new Run().refused("back", NONE);
        Scenes.oneGood(35).make("term 7 2", "sheet 0 1 3", "prove").refused("back", NONE).due("back", Run.findingOf("back", NONE)).make("image").due("back", 1);
    }

    private static void p49() {
        Edges.says("0 FOLLOWERS, 1 MOST, 2 ROUND, 3 z, 4 ROWS OF PIECES, 5 SPOTS that hold something now, 6 PIECES, 7 LEDGER.");
        new Run().dues("count", 0, 20, 0, 1, 0, 0, 1, 0);
        Run x = new Run("follower 0 1", "follower 63 1", "follower 49 1", "most 40", "seed MIN", "prove", "most 1");
        for (int spot = 0; spot < 10; spot++) {
            x.due("hold " + spot + " " + (spot % 2 == 0 ? "0 2" : "1 0"), 1).due("count 5", spot + 1);
        }
        x.dues("count", 3, 1, 0, Integer.MIN_VALUE, 4, 10, 1, 0);
        x.make("round").due("count 2", 1).make("seed MAX").due("count 3", Integer.MAX_VALUE);
        // Followers that are none any more are held no more.
        x = Scenes.full().make("hold 3 0 2").due("count 5", 5).make("back").due("count 5", 4).make("follower 0 1").due("count 5", 5);
        // Numbers that are as low as a finding are none.
        new Run("seed -1000001", "book 0 -1000008").due("count 3", -1000001).due("count 7", -1000008).due("status -1", 0);
        Edges.says("BEYOND.");
        new Run().range("count ?", 0, 7, BEYOND);
        Scenes.rich().range("count ?", 0, 7, BEYOND);
        Edges.says("OVER: LEDGER is no int.");
        new Run("book 0 2147483647").due("count 7", Integer.MAX_VALUE).make("book 0 1").refused("count 7", OVER);
        new Run("book 0 -2147483648").due("count 7", Integer.MIN_VALUE).make("book 0 -1").refused("count 7", OVER);
        new Run("book 0 4294967296").refused("count 7", OVER);
        new Run("book 0 LMAX").refused("count 7", OVER);
        new Run("book 0 LMIN").refused("count 7", OVER).refused("count 8", BEYOND);
    }

    private static void p50() {
        Edges.says("How many acts answered a finding ever (back() takes none back): which -1: all, 0 to 7: BEYOND to OVER.");
        String[] wrong = {"of 0 0", "follower 0 1", "copy 0 0 1 0 1", "back", "most 1", "item 3 0", "sheet 3 0 -1", "book 0 1"};
        for (int finding = 0; finding < 8; finding++) {
            Run x = finding == 0 ? new Run() : new Run("follower 0 1", "follower 0 1", "follower 0 1", "sheet 0 0 1", "sheet 1 1 1", "term 2 1", "book 0 LMAX");
            for (int times = 1; times <= 3; times++) {
                x.due(wrong[finding], Run.findingOf(wrong[finding], finding));
                for (int which = 0; which < 8; which++) {
                    x.due("status " + which, which == finding ? times : 0);
                }
                x.due("status -1", times);
            }
            // An image neither keeps them nor brings them back.
            x.make("image").due(wrong[finding == 3 ? 5 : finding], Run.findingOf(wrong[finding == 3 ? 5 : finding], finding == 3 ? 5 : finding));
            x.make("back").due("status -1", 4);
        }
        // Answers that look like findings are none.
        new Run("seed -1000002").due("seed 1", -1000002).due("book 0 -1000000000000000004", -1000000000000000004L).due("status -1", 0);
        // An object's 512th call is as good as its first.
        Run x = new Run();
        for (int i = 0; i < 510; i++) {
            x.due("of 0 0", Run.findingOf("of", BEYOND));
        }
        x.due("status 0", 510).due("status -1", 510);
        Edges.says("BEYOND (counted from then on): another one.");
        new Run().range("status ?", -1, 7, BEYOND);
        Scenes.rich().range("status ?", -1, 7, BEYOND);
        new Run().due("status 8", Run.findingOf("status", BEYOND)).due("status 0", 1).due("status -2", Run.findingOf("status", BEYOND)).due("status 0", 2)
            .due("status MIN", Run.findingOf("status", BEYOND)).due("status MAX", Run.findingOf("status", BEYOND)).due("status -1", 4);
    }
}
