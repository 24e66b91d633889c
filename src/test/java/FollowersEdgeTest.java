/** Promises 1 to 10: the boundary cases of each sentence. */
public final class FollowersEdgeTest {
    private static final int BEYOND = Run.BEYOND;
    private static final int FULL = Run.FULL;

    public static void main(String[] args) {
        Edges.promises(1, FollowersEdgeTest::p1, FollowersEdgeTest::p2, FollowersEdgeTest::p3, FollowersEdgeTest::p4,
            FollowersEdgeTest::p5, FollowersEdgeTest::p6, FollowersEdgeTest::p7, FollowersEdgeTest::p8,
            FollowersEdgeTest::p9, FollowersEdgeTest::p10);
    }

    private static void p1() {
        Edges.says("All as at first; no FOLLOWERS.");
        Run x = new Run();
        x.due("status -1", 0).dues("status", 0, 0, 0, 0, 0, 0, 0, 0);
        x.dues("count", 0, 20, 0, 1, 0, 0, 1, 0).dues("termOf", 0, 1).due("book 0 0", 0);
        x.dues("best", 0, 1, 0, 1, 0).dues("total 0", 0, 1).dues("piece 0", 0, 1, 0, 1, 0, 1).due("breaks -1", 0);
        x.due("judge", 1).due("status -1", 0);
        x.refused("of 0 0", BEYOND).refused("row 0 0", BEYOND).refused("back", Run.NONE);
        for (int s = 0; s < 4; s++) {
            x.refused("item " + s + " 0", Run.MISSING);
        }
        for (int spot = 0; spot < 10; spot++) {
            x.refused("taken " + spot + " 0", Run.MISSING);
        }
        // Nothing that was done to another object shows in a new one.
        Scenes.rich().make("follower 0 3", "image", "settle");
        new Run().dues("count", 0, 20, 0, 1, 0, 0, 1, 0).dues("termOf", 0, 1).refused("back", Run.NONE);
    }

    private static void p2() {
        Edges.says("A FOLLOWER (km: 10 times the KIND, and m) with 1 to 3 GOODS: its number.");
        for (int km = 0; km < 70; km++) {
            int goods = 1 + km % 3;
            new Run().due("follower " + km + " " + goods, 0).dues("of 0", km / 10, km % 10, goods, 1);
        }
        Run x = new Run();
        x.due("follower 0 1", 0).due("follower 69 3", 1).due("follower 35 2", 2).due("count 0", 3);
        // One that is none any more leaves nothing to the next of its number.
        x = new Run("image", "follower 69 3", "good 0 0 0 20", "good 0 1 1 3", "good 0 1 2 -9", "budget 0 26 20", "bind 0 342 5", "back");
        x.due("follower 12 2", 0).dues("of 0", 1, 2, 2, 1, 3).dues("rowOf 0 0", 1, 1).due("rowOf 0 0 3", 10);
        x.dues("goodOf 0 0", 10, 1, 0).dues("goodOf 0 1", 10, 1, 0).due("bind 0 0 0", 1);
        Edges.says("BEYOND.");
        new Run().range("follower ? 1", 0, 69, BEYOND).range("follower 0 ?", 1, 3, BEYOND);
        Scenes.rich().range("follower ? 3", 0, 69, BEYOND).range("follower 69 ?", 1, 3, BEYOND);
        Scenes.rich().refused("follower -1 0", BEYOND).refused("follower MIN MIN", BEYOND).refused("follower MAX MAX", BEYOND);
        Edges.says("FULL.");
        x = Scenes.rich().make("follower 0 1");
        x.refused("follower 0 1", FULL).refused("follower 69 3", FULL);
        // What is beyond is asked ahead of that.
        x.refused("follower 70 1", BEYOND).refused("follower -1 1", BEYOND);
        x.refused("follower 0 0", BEYOND).refused("follower 0 4", BEYOND);
        x.make("back").due("count 0", 2).due("follower 0 1", 2);
    }

    private static void p3() {
        Edges.says("It becomes one of a KIND, with m (km): the KIND that it was.");
        Run x = new Run("follower 12 1");
        x.due("become 0 0", 1).dues("of 0", 0, 0).due("become 0 69", 0).dues("of 0", 6, 9);
        x.due("become 0 69", 6).due("become 0 9", 6).dues("of 0", 0, 9).due("become 0 60", 0).dues("of 0", 6, 0);
        Edges.says("BEYOND.");
        new Run().refused("become 0 0", BEYOND).refused("become -1 0", BEYOND);
        Scenes.rich().range("become ? 0", 0, 1, BEYOND).range("become 0 ?", 0, 69, BEYOND).refused("become 2 70", BEYOND);
        Scenes.full().upTo("become ? 0", 2, BEYOND);
    }

    private static void p4() {
        Edges.says("Of a FOLLOWER: 0 KIND, 1 m, 2 GOODS, 3 how many ROWS, 4 how many PLANS, 5 the ANSWER's number, 6 BEST PLANS, as a set.");
        new Run("follower 0 1", "budget 0 0 0").dues("of 0", 0, 0, 1, 1, 1, 0, 1);
        // Seven sides and ten corners, of which those on the budget pay best.
        new Run("follower 69 3", "budget 0 0 20", "bind 0 220 10", "bind 0 178 9", "bind 0 172 8")
            .dues("of 0", 6, 9, 3, 4, 10, 4, 1 << 4 | 1 << 7 | 1 << 9);
        Edges.says("BEYOND.");
        new Run().refused("of 0 0", BEYOND);
        Scenes.rich().range("of ? 0", 0, 1, BEYOND).range("of 0 ?", 0, 6, BEYOND).refused("of 2 7", BEYOND);
        Scenes.full().upTo("of ? 6", 2, BEYOND);
    }

    private static void p5() {
        Edges.says("WORTH (what 0), TOLL (1), SIDE (2) of a GOOD becomes v: what it was.");
        Run x = new Run("follower 0 2");
        x.due("good 0 1 0 20", 10).due("good 0 1 0 0", 20).due("good 0 1 0 0", 0);
        x.due("good 0 1 1 3", 1).due("good 0 1 1 0", 3).due("good 0 1 1 0", 0);
        x.due("good 0 1 2 9", 0).due("good 0 1 2 -9", 9).due("good 0 1 2 -9", -9);
        x.dues("goodOf 0 1", 0, 0, -9).dues("goodOf 0 0", 10, 1, 0);
        // (0, 10) brings it nothing, the leader -90; (10, 0) 100 and 0.
        x.due("brings 0 1 0 0", 0).due("brings 0 1 1 0", -90).due("brings 0 2 0 0", 100).due("of 0 6", 4);
        Edges.says("BEYOND.");
        new Run().refused("good 0 0 0 1", BEYOND);
        new Run("follower 0 1").range("good 0 ? 0 1", 0, 0, BEYOND);
        x = Scenes.rich();
        x.range("good ? 0 0 1", 0, 1, BEYOND).range("good 0 ? 0 1", 0, 1, BEYOND).range("good 1 ? 0 1", 0, 2, BEYOND);
        x.range("good 0 0 ? 1", 0, 2, BEYOND);
        x.range("good 0 0 0 ?", 0, 20, BEYOND).range("good 0 0 1 ?", 0, 3, BEYOND).range("good 0 0 2 ?", -9, 9, BEYOND);
        x.range("good 1 2 0 ?", 0, 20, BEYOND).range("good 1 2 1 ?", 0, 3, BEYOND).range("good 1 2 2 ?", -9, 9, BEYOND);
    }

    private static void p6() {
        Edges.says("It.");
        Run x = new Run("follower 0 3", "good 0 0 0 20", "good 0 1 1 3", "good 0 2 2 -9", "good 0 2 0 0");
        x.dues("goodOf 0 0", 20, 1, 0).dues("goodOf 0 1", 10, 3, 0).dues("goodOf 0 2", 0, 1, -9);
        Edges.says("BEYOND.");
        new Run().refused("goodOf 0 0 0", BEYOND);
        new Run("follower 0 1").range("goodOf 0 ? 0", 0, 0, BEYOND);
        x = Scenes.rich();
        x.range("goodOf ? 0 0", 0, 1, BEYOND).range("goodOf 0 ? 0", 0, 1, BEYOND).range("goodOf 1 ? 0", 0, 2, BEYOND);
        x.range("goodOf 0 0 ?", 0, 2, BEYOND);
    }

    private static void p7() {
        Edges.says("THE BUDGET gets numbers (each less 1 a digit to the base 3, GOOD 0's the highest of three: by 9, cut; GOOD 2's the lowest; 0 to 26) and a BOUND: the BOUND that was.");
        Run x = new Run("follower 0 3");
        x.due("budget 0 0 20", 10).due("budget 0 0 0", 20).due("budget 0 26 0", 0).due("budget 0 26 1", 0).due("budget 0 0 10", 1);
        for (int n = 0; n < 27; n++) {
            x.due("budget 0 " + n + " " + (n + 10) % 20, (n + 9) % 20 + (n == 0 ? 1 : 0));
            x.dues("rowOf 0 0", n / 9 + 1, n / 3 % 3 + 1, n % 3 + 1, (n + 10) % 20);
        }
        // A bound of 0 leaves but the one plan.
        new Run("follower 0 3", "budget 0 26 0").due("of 0 4", 1).due("brings 0 -1 0 0", 0);
        Edges.says("BEYOND.");
        new Run().refused("budget 0 0 0", BEYOND);
        x = Scenes.rich();
        x.range("budget ? 0 5", 0, 1, BEYOND).range("budget 0 ? 5", 0, 26, BEYOND).range("budget 0 0 ?", 0, 20, BEYOND);
        x.range("budget 1 ? 20", 0, 26, BEYOND).range("budget 1 26 ?", 0, 20, BEYOND).refused("budget 0 27 21", BEYOND);
        // Also digits that don't count are within.
        new Run("follower 0 1").range("budget 0 ? 5", 0, 26, BEYOND);
        Edges.says("Digits of GOODS that it has not don't count (also in bind()).");
        for (int n = 0; n < 27; n++) {
            x = new Run("follower 0 1", "budget 0 " + n + " 6");
            x.due("of 0 4", 2).due("amount 0 1 0 0", 6 / (n / 9 + 1)).due("rowOf 0 0 0", n / 9 + 1).refused("rowOf 0 0 1", BEYOND);
            x = new Run("follower 0 2", "budget 0 " + n + " 6");
            x.due("of 0 4", 3).due("amount 0 1 1 0", 6 / (n / 3 % 3 + 1)).refused("rowOf 0 0 2", BEYOND);
        }
        for (int rest = 0; rest < 49; rest++) {
            x = new Run("follower 0 1", "bind 0 " + (4 * 49 + rest) + " 3", "bind 0 " + (3 * 49 + rest) + " 0");
            x.due("of 0 4", 2).due("amount 0 1 0 0", 3).due("rowOf 0 1 0", 1).due("rowOf 0 2 0", 0).due("price 0 2 0", 0);
        }
        for (int last = 0; last < 7; last++) {
            x = new Run("follower 0 2", "bind 0 " + (3 * 49 + 4 * 7 + last) + " 3");
            x.due("of 0 4", 4).due("amount 0 1 1 0", 3).due("amount 0 2 0 0", 7).due("amount 0 3 0 0", 10);
        }
    }

    private static void p8() {
        Edges.says("One more ROW, with numbers (each and 3 a digit to the base 7, GOOD 0's the highest of three: by 49, cut; 0 to 342) and a BOUND: its number.");
        new Run("follower 0 3").due("bind 0 0 0", 1).due("bind 0 342 20", 2).due("bind 0 171 7", 3).due("of 0 3", 4)
            .dues("rowOf 0 1", -3, -3, -3, 0).dues("rowOf 0 2", 3, 3, 3, 20).dues("rowOf 0 3", 0, 0, 0, 7);
        for (int n = 0; n < 343; n++) {
            new Run("follower 0 3").due("bind 0 " + n + " " + n % 21, 1)
                .dues("rowOf 0 1", n / 49 - 3, n / 7 % 7 - 3, n % 7 - 3, n % 21);
        }
        Edges.says("BEYOND.");
        new Run().refused("bind 0 0 0", BEYOND);
        new Run("follower 0 1", "follower 0 2").range("bind ? 0 5", 0, 1, BEYOND).range("bind 0 ? 5", 0, 342, BEYOND);
        Run x = Scenes.rich();
        x.range("bind 1 ? 5", 0, 342, BEYOND).range("bind 1 0 ?", 0, 20, BEYOND).range("bind 1 342 ?", 0, 20, BEYOND);
        Edges.says("FULL.");
        x.refused("bind 0 0 5", FULL).refused("bind 0 342 20", FULL).refused("bind 0 171 0", FULL);
        // What is beyond is asked ahead of that.
        x.refused("bind 0 343 0", BEYOND).refused("bind 0 -1 0", BEYOND).refused("bind 0 0 21", BEYOND).refused("bind 0 0 -1", BEYOND);
        x.make("loosen 0 1").due("bind 0 100 4", 3).refused("bind 0 100 4", FULL);
        new Run("follower 0 1", "bind 0 0 0", "bind 0 0 0").due("bind 0 0 0", 3).refused("bind 0 0 0", FULL);
    }

    private static void p9() {
        Edges.says("A ROW (not ROW 0) is none; those behind are one less: how many are left, ROW 0 with them.");
        Run x = new Run("follower 0 3", "bind 0 220 3", "bind 0 178 5", "bind 0 172 7");
        x.due("loosen 0 1", 3).dues("rowOf 0 1", 0, 1, 0, 5).dues("rowOf 0 2", 0, 0, 1, 7).due("amount 0 1 2 0", 7);
        x.refused("rowOf 0 3 0", BEYOND).due("loosen 0 2", 2).dues("rowOf 0 1", 0, 1, 0, 5).refused("rowOf 0 2 0", BEYOND);
        x.due("loosen 0 1", 1).due("of 0 3", 1).due("of 0 4", 4).dues("rowOf 0 0", 1, 1, 1, 10);
        new Run("follower 0 3", "bind 0 220 3", "bind 0 178 5", "bind 0 172 7").due("loosen 0 2", 3)
            .dues("rowOf 0 1", 1, 0, 0, 3).dues("rowOf 0 2", 0, 0, 1, 7);
        Edges.says("BEYOND.");
        new Run().refused("loosen 0 1", BEYOND);
        new Run("follower 0 3").refused("loosen 0 0", BEYOND).refused("loosen 0 1", BEYOND).refused("loosen 0 MAX", BEYOND);
        x = Scenes.rich();
        x.range("loosen ? 1", 0, 1, BEYOND).range("loosen 0 ?", 1, 3, BEYOND).range("loosen 1 ?", 1, 1, BEYOND);
        x.make("loosen 1 1").refused("loosen 1 1", BEYOND);
    }

    private static void p10() {
        Edges.says("Of a ROW: what 0 to 2 its number of that GOOD, 3 its BOUND.");
        Run x = new Run("follower 0 3", "budget 0 5 20", "bind 0 6 0", "bind 0 336 20");
        x.dues("rowOf 0 0", 1, 2, 3, 20).dues("rowOf 0 1", -3, -3, 3, 0).dues("rowOf 0 2", 3, 3, -3, 20);
        Edges.says("BEYOND: no such FOLLOWER, ROW, GOOD, what.");
        new Run().refused("rowOf 0 0 0", BEYOND);
        x = Scenes.rich();
        x.range("rowOf ? 0 0", 0, 1, BEYOND).range("rowOf 0 ? 0", 0, 3, BEYOND).range("rowOf 1 ? 3", 0, 1, BEYOND);
        x.range("rowOf 1 0 ?", 0, 3, BEYOND).range("rowOf 1 1 ?", 0, 3, BEYOND);
        // With fewer goods there is a gap ahead of the bound.
        x.range("rowOf 0 0 ?", 0, 1, BEYOND).refused("rowOf 0 0 2", BEYOND).range("rowOf 0 3 ?", 0, 1, BEYOND);
        x.due("rowOf 0 0 3", 10).upTo("rowOf 0 0 ?", 3, BEYOND);
        x = new Run("follower 0 1").refused("rowOf 0 0 1", BEYOND).refused("rowOf 0 0 2", BEYOND).due("rowOf 0 0 3", 10);
        x.range("rowOf 0 ? 3", 0, 0, BEYOND);
    }
}
