/** Each promise of the document by its number, with answers that were reckoned by hand. */
public final class PromiseTest {
    private static final int BEYOND = -1000001;
    private static final int FULL = -1000002;
    private static final int KIND = -1000003;
    private static final int NONE = -1000004;
    private static final int STATE = -1000005;
    private static final int MISSING = -1000006;
    private static final int SIZE = -1000007;
    private static final int OVER = -1000008;
    private static final long FAR = -1000000000000000001L;
    private static final long LONG_NONE = FAR - 3;
    private static final long LONG_MISSING = FAR - 5;
    private static final long LONG_OVER = FAR - 7;
    private static final int MIN = Integer.MIN_VALUE;
    private static final int MAX = Integer.MAX_VALUE;

    /** One of good 0, none of the others, as bind() takes it. */
    private static final int ONE = 4 * 49 + 3 * 7 + 3;

    private static int wrong = 0;
    private static int promise = 0;
    private static int asked = 0;

    private static void due(long got, long want) {
        asked++;
        if (got != want) {
            wrong++;
            StackTraceElement[] at = new Throwable().getStackTrace();
            System.out.println("promise " + promise + ", line " + at[1].getLineNumber() + ": answered " + got + ", due is " + want);
        }
    }

    public static void main(String[] args) {
        Runnable[] all = {
            PromiseTest::p1, PromiseTest::p2, PromiseTest::p3, PromiseTest::p4, PromiseTest::p5, PromiseTest::p6,
            PromiseTest::p7, PromiseTest::p8, PromiseTest::p9, PromiseTest::p10, PromiseTest::p11, PromiseTest::p12,
            PromiseTest::p13, PromiseTest::p14, PromiseTest::p15, PromiseTest::p16, PromiseTest::p17, PromiseTest::p18,
            PromiseTest::p19, PromiseTest::p20, PromiseTest::p21, PromiseTest::p22, PromiseTest::p23, PromiseTest::p24,
            PromiseTest::p25, PromiseTest::p26, PromiseTest::p27, PromiseTest::p28, PromiseTest::p29, PromiseTest::p30,
            PromiseTest::p31, PromiseTest::p32, PromiseTest::p33, PromiseTest::p34, PromiseTest::p35, PromiseTest::p36,
            PromiseTest::p37, PromiseTest::p38, PromiseTest::p39, PromiseTest::p40, PromiseTest::p41, PromiseTest::p42,
            PromiseTest::p43, PromiseTest::p44, PromiseTest::p45, PromiseTest::p46, PromiseTest::p47, PromiseTest::p48,
            PromiseTest::p49, PromiseTest::p50,
        };
        for (Runnable one : all) {
            promise++;
            int before = asked;
            one.run();
            if (asked == before) {
                wrong++;
                System.out.println("promise " + promise + " is not asked");
            }
        }
        if (wrong != 0) {
            System.exit(1);
        }
    }

    /** One follower with one good: amounts 0 to 10, worth 10, toll 1; it turns where it feels 10. */
    private static LeaderTerms oneGood(int km) {
        LeaderTerms x = new LeaderTerms();
        x.follower(km, 1);
        return x;
    }

    /** Plans (0, 0), (0, 10), (10, 0); the goods have the sides 2 and -3. */
    private static LeaderTerms twoGoods(int km) {
        LeaderTerms x = new LeaderTerms();
        x.follower(km, 2);
        x.good(0, 0, 2, 2);
        x.good(0, 1, 2, -3);
        return x;
    }

    /** All four rows meet in (5, 5), and pairs of them prove it in four ways. */
    private static LeaderTerms fourProofs() {
        LeaderTerms x = new LeaderTerms();
        x.follower(0, 2);
        x.good(0, 1, 0, 15);
        x.bind(0, ONE, 5);
        x.bind(0, 4 * 49 + 5 * 7 + 3, 15);
        x.bind(0, 3 * 49 + 4 * 7 + 3, 5);
        return x;
    }

    private static void sheet(LeaderTerms x, int s, int sort, long... numbers) {
        x.sheet(s, sort, numbers.length);
        for (int i = 0; i < numbers.length; i++) {
            x.write(s, i, numbers[i]);
        }
    }

    private static void p1() {
        LeaderTerms x = new LeaderTerms();
        int[] first = {0, 20, 0, 1, 0, 0, 1, 0};
        for (int what = 0; what < 8; what++) {
            due(x.count(what), first[what]);
        }
        due(x.termOf(0), 0);
        due(x.termOf(1), 1);
        due(x.status(-1), 0);
        for (int s = 0; s < 4; s++) {
            due(x.item(s, 0), LONG_MISSING);
        }
        for (int spot = 0; spot < 10; spot++) {
            due(x.taken(spot, 0), MISSING);
        }
        due(x.of(0, 0), BEYOND);
        due(x.back(), NONE);
    }

    private static void p2() {
        LeaderTerms x = new LeaderTerms();
        due(x.follower(-1, 1), BEYOND);
        due(x.follower(70, 1), BEYOND);
        due(x.follower(0, 0), BEYOND);
        due(x.follower(0, 4), BEYOND);
        due(x.follower(MIN, MAX), BEYOND);
        due(x.follower(0, 1), 0);
        due(x.follower(69, 3), 1);
        due(x.follower(35, 2), 2);
        due(x.follower(0, 1), FULL);
        due(x.follower(70, 1), BEYOND);
        due(x.of(1, 0), 6);
        due(x.of(1, 1), 9);
        due(x.of(1, 2), 3);
        due(x.of(1, 3), 1);
        for (int g = 0; g < 3; g++) {
            due(x.goodOf(1, g, 0), 10);
            due(x.goodOf(1, g, 1), 1);
            due(x.goodOf(1, g, 2), 0);
            due(x.rowOf(1, 0, g), 1);
        }
        due(x.rowOf(1, 0, 3), 10);
    }

    private static void p3() {
        LeaderTerms x = oneGood(12);
        due(x.become(0, 47), 1);
        due(x.of(0, 0), 4);
        due(x.of(0, 1), 7);
        due(x.become(0, 69), 4);
        due(x.become(0, 70), BEYOND);
        due(x.become(0, -1), BEYOND);
        due(x.become(1, 0), BEYOND);
        due(x.become(-1, 0), BEYOND);
        due(x.of(0, 0), 6);
    }

    private static void p4() {
        LeaderTerms x = twoGoods(0);
        int[] due = {0, 0, 2, 1, 3, 2, 6};
        for (int what = 0; what < 7; what++) {
            due(x.of(0, what), due[what]);
        }
        due(x.of(0, 7), BEYOND);
        due(x.of(0, -1), BEYOND);
        due(x.of(1, 0), BEYOND);
        // At 0 plans 1 and 2 are as good; they bring -30 and 20.
        int[] answers = {2, 1, 1, 1, 1, 2, 1};
        for (int kind = 0; kind < 7; kind++) {
            x.become(0, 10 * kind);
            due(x.of(0, 5), answers[kind]);
        }
        // Where it feels 10, all three are as good; plan 0 brings 0, plan 1 70, plan 2 120.
        x.term(10, 1);
        int[] there = {2, 0, 0, 0, 0, 2, 0};
        for (int kind = 0; kind < 7; kind++) {
            x.become(0, 10 * kind);
            due(x.of(0, 6), kind == 3 || kind == 6 ? 1 : 7);
            due(x.of(0, 5), there[kind]);
        }
        // GRIM feels twice the term and m: 10 at 3 with m 4; DULL at 6.
        x.become(0, 64);
        x.term(3, 1);
        due(x.of(0, 6), 7);
        x.become(0, 44);
        due(x.of(0, 6), 6);
        x.term(6, 1);
        due(x.of(0, 6), 7);
        x.become(0, 34);
        due(x.of(0, 6), 1);
        x.term(5, 1);
        due(x.of(0, 6), 7);
        // Of several with the least gain the least number.
        x = new LeaderTerms();
        x.follower(10, 2);
        due(x.of(0, 5), 1);
        x.become(0, 0);
        due(x.of(0, 5), 1);
        x.become(0, 50);
        due(x.of(0, 5), 2);
        // A row without numbers is tight everywhere if its bound is 0, and takes no plan away.
        x.bind(0, 171, 0);
        due(x.of(0, 4), 3);
        due(x.of(0, 3), 2);
        // A box with one corner cut off has ten corners: more than that no follower has.
        x = new LeaderTerms();
        x.follower(0, 3);
        x.budget(0, 0, 20);
        x.bind(0, ONE, 10);
        x.bind(0, 3 * 49 + 4 * 7 + 3, 9);
        x.bind(0, 3 * 49 + 3 * 7 + 4, 8);
        due(x.of(0, 4), 10);
        // (3, 9, 8), (10, 2, 8), (10, 9, 1) are on the cut.
        due(x.of(0, 5), 4);
        due(x.of(0, 6), 1 << 4 | 1 << 7 | 1 << 9);
    }

    private static void p5() {
        LeaderTerms x = twoGoods(0);
        due(x.good(0, 0, 0, 20), 10);
        due(x.good(0, 0, 0, 0), 20);
        due(x.good(0, 1, 1, 3), 1);
        due(x.good(0, 1, 1, 0), 3);
        due(x.good(0, 1, 2, 9), -3);
        due(x.good(0, 1, 2, -9), 9);
        due(x.good(0, 0, 0, 21), BEYOND);
        due(x.good(0, 0, 0, -1), BEYOND);
        due(x.good(0, 0, 1, 4), BEYOND);
        due(x.good(0, 0, 1, -1), BEYOND);
        due(x.good(0, 0, 2, 10), BEYOND);
        due(x.good(0, 0, 2, -10), BEYOND);
        due(x.good(0, 0, 3, 1), BEYOND);
        due(x.good(0, 0, -1, 1), BEYOND);
        due(x.good(0, 2, 0, 1), BEYOND);
        due(x.good(0, -1, 0, 1), BEYOND);
        due(x.good(1, 0, 0, 1), BEYOND);
        due(x.brings(0, 1, 0, 0), 100);
        due(x.brings(0, 1, 1, 0), -90);
    }

    private static void p6() {
        LeaderTerms x = twoGoods(0);
        due(x.goodOf(0, 0, 2), 2);
        due(x.goodOf(0, 1, 2), -3);
        due(x.goodOf(0, 1, 0), 10);
        due(x.goodOf(0, 1, 1), 1);
        due(x.goodOf(0, 2, 0), BEYOND);
        due(x.goodOf(0, 0, 3), BEYOND);
        due(x.goodOf(0, 0, -1), BEYOND);
        due(x.goodOf(1, 0, 0), BEYOND);
    }

    private static void p7() {
        LeaderTerms x = new LeaderTerms();
        x.follower(0, 3);
        due(x.budget(0, 2 * 9 + 3, 20), 10);
        due(x.rowOf(0, 0, 0), 3);
        due(x.rowOf(0, 0, 1), 2);
        due(x.rowOf(0, 0, 2), 1);
        due(x.budget(0, 2, 0), 20);
        due(x.rowOf(0, 0, 0), 1);
        due(x.rowOf(0, 0, 2), 3);
        due(x.of(0, 4), 1);
        due(x.budget(0, 27, 0), BEYOND);
        due(x.budget(0, -1, 0), BEYOND);
        due(x.budget(0, 0, 21), BEYOND);
        due(x.budget(0, 0, -1), BEYOND);
        due(x.budget(1, 0, 0), BEYOND);
        x.follower(0, 1);
        due(x.budget(1, 26, 20), 10);
        due(x.amount(1, 1, 0, 0), 20);
        due(x.amount(1, 1, 0, 1), 3);
        due(x.rowOf(1, 0, 1), BEYOND);
    }

    private static void p8() {
        LeaderTerms x = new LeaderTerms();
        x.follower(0, 3);
        due(x.bind(0, 2 * 7 + 6, 5), 1);
        due(x.rowOf(0, 1, 0), -3);
        due(x.rowOf(0, 1, 1), -1);
        due(x.rowOf(0, 1, 2), 3);
        due(x.rowOf(0, 1, 3), 5);
        due(x.bind(0, 343, 5), BEYOND);
        due(x.bind(0, -1, 5), BEYOND);
        due(x.bind(0, 0, 21), BEYOND);
        due(x.bind(0, 0, -1), BEYOND);
        due(x.bind(1, 0, 0), BEYOND);
        due(x.bind(0, 342, 20), 2);
        due(x.bind(0, 0, 0), 3);
        due(x.bind(0, 0, 0), FULL);
        due(x.bind(0, 343, 0), BEYOND);
        x.follower(0, 1);
        due(x.bind(1, ONE + 3 * 7 + 3, 4), 1);
        due(x.amount(1, 1, 0, 0), 4);
    }

    private static void p9() {
        LeaderTerms x = oneGood(0);
        x.bind(0, ONE, 3);
        x.bind(0, ONE, 5);
        x.bind(0, ONE, 7);
        due(x.loosen(0, 0), BEYOND);
        due(x.loosen(0, 4), BEYOND);
        due(x.loosen(0, -1), BEYOND);
        due(x.loosen(1, 1), BEYOND);
        due(x.amount(0, 1, 0, 0), 3);
        due(x.loosen(0, 1), 3);
        due(x.amount(0, 1, 0, 0), 5);
        due(x.rowOf(0, 1, 3), 5);
        due(x.rowOf(0, 2, 3), 7);
        due(x.loosen(0, 2), 2);
        due(x.loosen(0, 2), BEYOND);
        due(x.loosen(0, 1), 1);
        due(x.loosen(0, 1), BEYOND);
        due(x.amount(0, 1, 0, 0), 10);
    }

    private static void p10() {
        LeaderTerms x = twoGoods(0);
        x.bind(0, 6 * 49 + 7, 19);
        due(x.rowOf(0, 1, 0), 3);
        due(x.rowOf(0, 1, 1), -2);
        due(x.rowOf(0, 1, 2), BEYOND);
        due(x.rowOf(0, 1, 3), 19);
        due(x.rowOf(0, 1, 4), BEYOND);
        due(x.rowOf(0, 1, -1), BEYOND);
        due(x.rowOf(0, 2, 0), BEYOND);
        due(x.rowOf(0, -1, 0), BEYOND);
        due(x.rowOf(1, 0, 0), BEYOND);
        due(x.rowOf(0, 0, 3), 10);
    }

    private static void p11() {
        LeaderTerms x = new LeaderTerms();
        due(x.most(40), 20);
        due(x.most(1), 40);
        due(x.most(0), BEYOND);
        due(x.most(41), BEYOND);
        due(x.most(MIN), BEYOND);
        x.most(7);
        x.term(13, 2);
        due(x.most(6), STATE);
        due(x.most(41), BEYOND);
        due(x.count(1), 7);
        x.term(6, 1);
        due(x.most(6), 7);
    }

    private static void p12() {
        LeaderTerms x = new LeaderTerms();
        due(x.term(6, 4), 1);
        due(x.termOf(0), 3);
        due(x.termOf(1), 2);
        due(x.term(1, 0), BEYOND);
        due(x.term(1, -1), BEYOND);
        due(x.term(1, 2000001), BEYOND);
        due(x.term(-1, 1), BEYOND);
        due(x.term(21, 1), BEYOND);
        due(x.term(40000001, 2000000), BEYOND);
        due(x.term(Long.MAX_VALUE, 2000000), BEYOND);
        due(x.term(1, Long.MIN_VALUE), BEYOND);
        due(x.termOf(0), 3);
        due(x.term(39999999, 2000000), 1);
        due(x.termOf(1), 2000000);
        due(x.term(40000000, 2000000), 1);
        due(x.termOf(0), 20);
        due(x.term(0, 7), 1);
        due(x.termOf(1), 1);
    }

    private static void p13() {
        LeaderTerms x = new LeaderTerms();
        x.term(35, 10);
        due(x.termOf(0), 7);
        due(x.termOf(1), 2);
        due(x.termOf(2), FAR);
        due(x.termOf(-1), FAR);
    }

    private static void p14() {
        LeaderTerms x = twoGoods(0);
        x.budget(0, 9 + 6, 7);
        due(x.amount(0, 0, 0, 0), 0);
        due(x.amount(0, 0, 0, 1), 1);
        due(x.amount(0, 1, 1, 0), 7);
        due(x.amount(0, 1, 1, 1), 3);
        due(x.amount(0, 2, 0, 0), 7);
        due(x.amount(0, 2, 0, 1), 2);
        due(x.amount(0, 2, 1, 0), 0);
        due(x.amount(0, 3, 0, 0), FAR);
        due(x.amount(0, -1, 0, 0), FAR);
        due(x.amount(0, 0, 2, 0), FAR);
        due(x.amount(0, 0, -1, 0), FAR);
        due(x.amount(0, 0, 0, 2), FAR);
        due(x.amount(0, 0, 0, -1), FAR);
        due(x.amount(1, 0, 0, 0), FAR);
        // Plans go by good 0, then good 1: (0, 0), (0, 7/3), (1, 5/3), (1, 0).
        x.bind(0, ONE, 1);
        due(x.of(0, 4), 4);
        due(x.amount(0, 2, 1, 0), 0);
        due(x.amount(0, 3, 1, 0), 5);
        due(x.amount(0, 3, 1, 1), 3);
    }

    private static void p15() {
        LeaderTerms x = twoGoods(0);
        x.term(7, 3);
        due(x.brings(0, 1, 0, 0), 230);
        due(x.brings(0, 1, 0, 1), 3);
        due(x.brings(0, 1, 1, 0), -20);
        due(x.brings(0, 1, 1, 1), 3);
        due(x.brings(0, -1, 1, 0), 130);
        due(x.brings(0, -1, 1, 1), 3);
        due(x.brings(0, 0, 0, 0), 0);
        due(x.brings(0, 0, 0, 1), 1);
        x.become(0, 69);
        due(x.brings(0, 1, 0, 0), -110);
        due(x.brings(0, -1, 0, 0), 0);
        due(x.brings(0, 3, 0, 0), FAR);
        due(x.brings(0, -2, 0, 0), FAR);
        due(x.brings(0, 0, 2, 0), FAR);
        due(x.brings(0, 0, -1, 0), FAR);
        due(x.brings(0, 0, 0, 2), FAR);
        due(x.brings(1, 0, 0, 0), FAR);
    }

    private static void p16() {
        LeaderTerms x = oneGood(10);
        x.follower(0, 1);
        due(x.total(0, 0), 0);
        due(x.total(1, 0), LONG_NONE);
        due(x.total(2, 0), 0);
        x.term(10, 1);
        due(x.total(0, 0), 100);
        due(x.total(1, 0), 200);
        due(x.total(2, 0), 0);
        x.term(1, 3);
        for (int how = 0; how < 3; how++) {
            due(x.total(how, 0), 20);
            due(x.total(how, 1), 3);
        }
        x.term(20, 1);
        due(x.total(1, 0), 0);
        due(x.total(2, 0), LONG_NONE);
        due(x.total(2, 2), FAR);
        due(x.total(3, 0), FAR);
        due(x.total(-1, 0), FAR);
        due(x.total(0, -1), FAR);
        // Near 0, too: a good that is worth nothing is given up at once.
        x = oneGood(0);
        x.good(0, 0, 0, 0);
        x.good(0, 0, 2, 4);
        due(x.total(0, 0), 40);
        due(x.total(2, 0), 0);
    }

    private static void p17() {
        LeaderTerms x = oneGood(0);
        // At 15 the node with the budget in is live, but none under it.
        int[][] due = {{1, 3, 1}, {3, 6, 1}, {1, 4, 1}};
        long[] terms = {0, 10, 15};
        for (int i = 0; i < 3; i++) {
            x.term(terms[i], 1);
            for (int what = 0; what < 3; what++) {
                due(x.opens(0, what), due[i][what]);
            }
        }
        due(x.opens(0, 3), BEYOND);
        due(x.opens(0, -1), BEYOND);
        due(x.opens(1, 0), BEYOND);
        // A second row just like the budget: two ways to prove the same.
        x.term(0, 1);
        x.bind(0, ONE, 10);
        due(x.opens(0, 2), 2);
        due(fourProofs().opens(0, 2), 4);
        due(x.opens(0, 0), 3);
        due(x.opens(0, 1), 9);
    }

    private static void p18() {
        LeaderTerms x = oneGood(0);
        due(x.openAt(0, 0), 1);
        due(x.openAt(0, 1), NONE);
        due(x.openAt(0, -1), NONE);
        x.term(10, 1);
        due(x.openAt(0, 0), 0);
        due(x.openAt(0, 1), 1);
        due(x.openAt(0, 2), 2);
        due(x.openAt(0, 3), NONE);
        due(x.openAt(0, MAX), NONE);
        x.term(15, 1);
        due(x.openAt(0, 0), 2);
        due(x.openAt(1, 0), BEYOND);
        due(x.openAt(-1, -1), BEYOND);
    }

    private static void p19() {
        LeaderTerms x = oneGood(0);
        int[] due = {0, 1, 0, 0};
        for (int set = 0; set < 4; set++) {
            due(x.isOpen(0, set), due[set]);
        }
        due(x.isOpen(0, 4), BEYOND);
        due(x.isOpen(0, -1), BEYOND);
        due(x.isOpen(1, 0), BEYOND);
        x.bind(0, ONE, 10);
        due(x.isOpen(0, 4), 0);
        due(x.isOpen(0, 3), 1);
        due(x.isOpen(0, 1), 1);
        due(x.isOpen(0, 2), 1);
        due(x.isOpen(0, 8), BEYOND);
    }

    private static void p20() {
        LeaderTerms x = oneGood(0);
        x.budget(0, 18, 10);
        x.term(1, 2);
        due(x.price(0, 0, 0), 19);
        due(x.price(0, 0, 1), 6);
        due(x.price(0, 1, 0), FAR);
        due(x.price(0, -1, 0), FAR);
        due(x.price(0, 0, 2), FAR);
        due(x.price(1, 0, 0), FAR);
        // Of two proofs the one with the lesser price of row 0.
        x = oneGood(0);
        x.bind(0, ONE, 10);
        due(x.price(0, 0, 0), 0);
        due(x.price(0, 0, 1), 1);
        due(x.price(0, 1, 0), 10);
        x.term(12, 1);
        due(x.price(0, 1, 0), 0);
        // (5, 0, 5, 0), (0, 5/2, 15/2, 0), (10, 0, 0, 5), (0, 10, 0, 15): the second is the first of them.
        x = fourProofs();
        due(x.price(0, 0, 0), 0);
        due(x.price(0, 1, 0), 5);
        due(x.price(0, 1, 1), 2);
        due(x.price(0, 2, 0), 15);
        due(x.price(0, 3, 0), 0);
        // At 3 the goods leave 7 and 12.
        x.term(3, 1);
        due(x.price(0, 1, 0), 1);
        due(x.price(0, 1, 1), 1);
        due(x.price(0, 2, 0), 6);
    }

    private static void p21() {
        LeaderTerms x = oneGood(0);
        x.bind(0, ONE, 10);
        due(x.weigh(0, 0), MISSING);
        due(x.weigh(4, 0), BEYOND);
        due(x.weigh(-1, 0), BEYOND);
        due(x.weigh(0, 1), BEYOND);
        long[][] told = {
            {1, 4, 6}, {1, 4, 5}, {1, 4, 7}, {0, 4, 6}, {1, -1, 11}, {1, 4}, {}, {1, 4, 6, -5}, {3, 12, 18},
            {1000000, 4000000, 6000000}, {1000001, 4000004, 6000006}, {1, 1000000000, 0}, {1, 1000000001, 0},
            {1000000, 1000000000, 1000000000}, {-1, 4, 6},
        };
        int[] due = {0, 10, 2, 1, 1, 1, 1, 0, 0, 0, 1, 2, 1, 2, 1};
        for (int i = 0; i < told.length; i++) {
            sheet(x, 0, 2, told[i]);
            due(x.weigh(0, 0), due[i]);
        }
        sheet(x, 0, 0, 1, 10, 0);
        due(x.weigh(0, 0), 0);
        // The first good for which they are too little.
        x = twoGoods(0);
        x.good(0, 0, 0, 5);
        sheet(x, 1, 1, 2, 19);
        due(x.weigh(1, 0), 11);
        sheet(x, 1, 1, 2, 9);
        due(x.weigh(1, 0), 10);
        sheet(x, 1, 1, 2, 20);
        due(x.weigh(1, 0), 0);
        x.term(1, 3);
        due(x.weigh(1, 0), 2);
        sheet(x, 1, 1, 3, 29);
        due(x.weigh(1, 0), 0);
        // NET is 133/6; prices that are less than it by a hair there are none.
        x = oneGood(0);
        x.budget(0, 18, 7);
        x.term(1, 2);
        long[][] close = {{6, 19}, {12, 38}, {1000, 3167}, {100000, 316667}, {1000000, 3166667}, {7, 23}, {1000000, 3166666}};
        int[] answers = {0, 0, 2, 2, 2, 2, 10};
        for (int i = 0; i < close.length; i++) {
            sheet(x, 1, 2, close[i]);
            due(x.weigh(1, 0), answers[i]);
        }
        // NET is 66/7: close fractions with the same whole part, told apart by what is left of them.
        x.budget(0, 0, 1);
        x.term(4, 7);
        long[][] near = {{7, 66}, {2, 19}, {3, 29}, {9, 85}, {16, 151}, {14, 132}, {1000000, 9428572}, {5, 47}};
        int[] told66 = {0, 2, 2, 2, 2, 0, 2, 10};
        for (int i = 0; i < near.length; i++) {
            sheet(x, 1, 2, near[i]);
            due(x.weigh(1, 0), told66[i]);
        }
        // Products beyond the longs must not mislead.
        x.term(39999999, 2000000);
        sheet(x, 1, 2, 1000000, 1000000000);
        due(x.weigh(1, 0), 2);
    }

    private static void p22() {
        LeaderTerms x = oneGood(0);
        x.follower(40, 1);
        x.follower(43, 1);
        due(x.breaks(0), 1);
        due(x.breaks(1), 1);
        due(x.breaks(-1), 2);
        due(x.breaks(3), BEYOND);
        due(x.breaks(-2), BEYOND);
        x.most(10);
        due(x.breaks(0), 0);
        due(x.breaks(-1), 1);
        x.good(2, 0, 0, 3);
        due(x.breaks(2), 0);
        x.good(2, 0, 1, 0);
        due(x.breaks(2), 0);
        due(new LeaderTerms().breaks(-1), 0);
        // Two goods that leave it the same everywhere turn it once.
        due(twoGoods(0).breaks(0), 1);
    }

    private static void p23() {
        LeaderTerms x = oneGood(0);
        x.follower(63, 1);
        due(x.breakAt(-1, 0, 0), 7);
        due(x.breakAt(-1, 0, 1), 2);
        due(x.breakAt(-1, 1, 0), 10);
        due(x.breakAt(-1, 1, 1), 1);
        due(x.breakAt(0, 0, 0), 10);
        due(x.breakAt(1, 0, 0), 7);
        due(x.breakAt(-1, 2, 0), FAR);
        due(x.breakAt(-1, -1, 0), FAR);
        due(x.breakAt(0, 1, 0), FAR);
        due(x.breakAt(2, 0, 0), FAR);
        due(x.breakAt(-2, 0, 0), FAR);
        due(x.breakAt(0, 0, 2), FAR);
    }

    private static void p24() {
        LeaderTerms x = oneGood(0);
        x.budget(0, 18, 10);
        x.good(0, 0, 2, -1);
        long[][] due = {{10, 3, -10, 3, 30, 1}, {0, 1, 0, 1, 0, 1}};
        for (int k = 0; k < 2; k++) {
            for (int what = 0; what < 6; what++) {
                due(x.piece(k, what), due[k][what]);
            }
        }
        due(x.piece(2, 0), FAR);
        due(x.piece(-1, 0), FAR);
        due(x.piece(0, 6), FAR);
        due(x.piece(0, -1), FAR);
        // Its left end is what is neared, not what is: at 0 it gives up what is worth nothing.
        x = oneGood(0);
        x.good(0, 0, 0, 0);
        x.good(0, 0, 2, 4);
        due(x.piece(0, 2), 0);
        due(new LeaderTerms().piece(0, 5), 1);
    }

    private static void p25() {
        // It turns at 10; then it takes all (FOLLOWER, LATE) or nothing.
        int[] how = {0, 1, 1, 1, 1, 0, 1};
        long[] sums = {100, 100, 100, 50, 100, 100, 50};
        long[] where = {10, 10, 10, 5, 10, 10, 5};
        for (int kind = 0; kind < 7; kind++) {
            LeaderTerms x = oneGood(10 * kind);
            long[] due = {sums[kind], 1, where[kind], 1, how[kind]};
            for (int what = 0; what < 5; what++) {
                due(x.best(what), due[what]);
            }
        }
        LeaderTerms x = oneGood(63);
        due(x.best(0), 35);
        due(x.best(2), 7);
        due(x.best(3), 2);
        due(x.best(5), FAR);
        due(x.best(-1), FAR);
        // Neared from above alone: CAUTIOUS takes at 0 what brings least.
        x = twoGoods(10);
        x.good(0, 0, 0, 0);
        x.good(0, 1, 0, 0);
        x.good(0, 0, 1, 3);
        x.good(0, 1, 1, 3);
        due(x.best(0), 0);
        due(x.best(2), 0);
        due(x.best(4), 2);
        // Level from 0 on: the least term, where it is so.
        x = oneGood(0);
        x.good(0, 0, 1, 0);
        x.good(0, 0, 2, 5);
        due(x.best(0), 50);
        due(x.best(2), 0);
        due(x.best(4), 0);
        // At the greatest term, too.
        x = oneGood(0);
        x.most(3);
        due(x.best(0), 30);
        due(x.best(2), 3);
        due(new LeaderTerms().best(0), 0);
        // What it takes costs more than it brings, up to 7/2; what is neared there from above is best.
        x = oneGood(10);
        x.good(0, 0, 0, 7);
        x.good(0, 0, 1, 2);
        x.good(0, 0, 2, -9);
        x.most(4);
        long[] due = {0, 1, 7, 2, 2};
        for (int what = 0; what < 5; what++) {
            due(x.best(what), due[what]);
        }
        // At MOST nothing is neared from above.
        x.good(0, 0, 0, 8);
        due(x.best(0), -10);
        due(x.best(2), 4);
        due(x.best(4), 0);
    }

    private static void p26() {
        LeaderTerms x = oneGood(14);
        x.follower(26, 1);
        due(x.asKind(0, 0), 200);
        due(x.asKind(0, 4), 0);
        due(x.asKind(1, 4), 1);
        due(x.asKind(3, 2), 5);
        // DULL with m 4 turns at 6, with m 6 at 4: 60 alone, 80 together.
        due(x.asKind(4, 0), 80);
        due(x.asKind(4, 2), 4);
        due(x.asKind(6, 0), 40);
        due(x.asKind(6, 2), 2);
        due(x.asKind(7, 0), FAR);
        due(x.asKind(-1, 0), FAR);
        due(x.asKind(0, 5), FAR);
        due(x.asKind(0, -1), FAR);
        due(x.of(0, 0), 1);
        due(x.of(1, 0), 2);
    }

    private static void p27() {
        LeaderTerms x = oneGood(63);
        due(x.settle(), 1);
        due(x.termOf(0), 7);
        due(x.termOf(1), 2);
        due(x.total(0, 0), 0);
        due(x.total(1, 0), 35);
        x.become(0, 0);
        due(x.settle(), 0);
        due(x.termOf(0), 10);
        due(new LeaderTerms().settle(), 0);
    }

    private static void p28() {
        due(oneGood(0).kindFor(0), 0);
        // What it takes costs the leader 9 each: best is one that takes nothing, and DULL is the first.
        LeaderTerms x = oneGood(9);
        x.good(0, 0, 0, 5);
        x.good(0, 0, 2, -9);
        x.most(1);
        due(x.kindFor(0), 4);
        due(x.of(0, 0), 0);
        due(x.of(0, 1), 9);
        due(x.kindFor(1), BEYOND);
        due(x.kindFor(-1), BEYOND);
    }

    private static void p29() {
        LeaderTerms x = oneGood(0);
        due(x.tollFor(0, 0), 1);
        x.most(5);
        due(x.tollFor(0, 0), 2);
        x.most(4);
        due(x.tollFor(0, 0), 3);
        due(x.goodOf(0, 0, 1), 1);
        due(x.best(0), 40);
        due(x.tollFor(0, 1), BEYOND);
        due(x.tollFor(0, -1), BEYOND);
        due(x.tollFor(1, 0), BEYOND);
        x.budget(0, 0, 0);
        due(x.tollFor(0, 0), 0);
    }

    private static void p30() {
        LeaderTerms x = oneGood(0);
        due(x.without(0), -1);
        x.bind(0, ONE, 5);
        due(x.without(0), 1);
        x.bind(0, ONE, 3);
        due(x.without(0), 2);
        due(x.of(0, 3), 3);
        due(x.best(0), 30);
        x.bind(0, ONE, 3);
        due(x.without(0), -1);
        due(x.without(1), BEYOND);
        due(x.without(-1), BEYOND);
        // Either row alone keeps one good away: of several the least.
        x = new LeaderTerms();
        x.follower(0, 2);
        x.bind(0, ONE, 0);
        x.bind(0, 3 * 49 + 4 * 7 + 3, 0);
        due(x.without(0), 1);
        x.good(0, 1, 0, 11);
        due(x.without(0), 2);
    }

    private static void p31() {
        LeaderTerms x = oneGood(0);
        due(x.mostFor(35), 4);
        due(x.mostFor(40), 4);
        due(x.mostFor(41), 5);
        due(x.mostFor(100), 10);
        due(x.mostFor(101), NONE);
        due(x.mostFor(0), 1);
        due(x.mostFor(-9999), 1);
        due(x.mostFor(9999), NONE);
        due(x.mostFor(10000), BEYOND);
        due(x.mostFor(-10000), BEYOND);
        due(x.count(1), 20);
        // Its break is at 20 then: what is neared there from below counts.
        x.become(0, 10);
        x.good(0, 0, 0, 20);
        x.budget(0, 0, 20);
        due(x.mostFor(400), 20);
        // Three of good 0, which is free, need one of good 1: it takes (15, 5) up to 60.
        x = new LeaderTerms();
        x.follower(0, 2);
        x.good(0, 0, 0, 20);
        x.good(0, 0, 1, 0);
        x.good(0, 1, 0, 0);
        x.budget(0, 0, 20);
        x.bind(0, 4 * 49, 0);
        due(x.mostFor(195), 39);
        due(x.mostFor(196), 40);
        due(x.mostFor(200), 40);
        due(x.mostFor(201), NONE);
    }

    private static void p32() {
        LeaderTerms x = oneGood(0);
        x.good(0, 0, 2, -3);
        due(x.round(), -30);
        x.term(7, 4);
        due(x.round(), -12);
        due(x.count(7), -42);
        due(x.count(2), 2);
        due(x.book(0, Long.MIN_VALUE + 42 + 12), Long.MIN_VALUE + 12);
        due(x.round(), -12);
        due(x.round(), OVER);
        due(x.book(0, 0), Long.MIN_VALUE);
        due(x.count(2), 3);
        x = new LeaderTerms();
        for (int i = 0; i < 499; i++) {
            x.loose(20);
        }
        due(x.loose(20), STATE);
        due(x.loose(18), 0);
        due(x.round(), 0);
        due(x.count(2), 9999);
        due(x.round(), STATE);
        due(x.loose(1), STATE);
        due(x.count(2), 9999);
    }

    private static void p33() {
        LeaderTerms x = oneGood(0);
        // z is 1103527590, the draw 4310654: 5 by 21; then z is 2524885223 - 2^32, the draw 9862832: 14.
        due(x.loose(1), 50);
        due(x.count(3), 1103527590);
        due(x.termOf(0), 5);
        due(x.loose(1), 0);
        due(x.count(3), (int) 2524885223L);
        due(x.termOf(0), 14);
        due(x.termOf(1), 1);
        due(x.count(7), 50);
        due(x.loose(0), BEYOND);
        due(x.loose(21), BEYOND);
        due(x.loose(MIN), BEYOND);
        // 4310654 is 0 by 2.
        x.term(1, 1);
        x.most(1);
        x.seed(1);
        due(x.loose(1), 0);
        due(x.termOf(0), 0);
        x.most(20);
        // Each round brings 10: the third would be too much, and then nothing has been.
        x.good(0, 0, 1, 0);
        x.good(0, 0, 2, 1);
        x.term(1, 3);
        x.seed(5);
        x.book(0, Long.MAX_VALUE - 75);
        due(x.loose(3), OVER);
        due(x.count(2), 3);
        due(x.count(3), 5);
        due(x.termOf(1), 3);
        due(x.book(0, 0), Long.MAX_VALUE - 25);
        due(x.loose(2), 10);
        due(x.book(0, 0), Long.MAX_VALUE - 5);
        due(x.count(2), 5);
        x = new LeaderTerms();
        for (int i = 0; i < 499; i++) {
            x.loose(20);
        }
        due(x.loose(20), STATE);
        due(x.loose(21), BEYOND);
        due(x.loose(19), 0);
        due(x.count(2), 9999);
        due(x.loose(1), STATE);
        due(x.loose(0), BEYOND);
    }

    private static void p34() {
        LeaderTerms x = new LeaderTerms();
        due(x.book(0, -7), -7);
        due(x.book(2, 2), -3);
        due(x.book(1, -4), 12);
        due(x.book(2, -12), -1);
        due(x.book(1, Long.MIN_VALUE), LONG_OVER);
        due(x.book(1, 5), -5);
        due(x.book(1, -1), 5);
        due(x.book(0, 7), 12);
        due(x.book(3, 1), FAR);
        due(x.book(-1, 0), FAR);
        due(x.book(2, 0), LONG_NONE);
        due(x.book(0, Long.MAX_VALUE), LONG_OVER);
        due(x.book(1, Long.MAX_VALUE), LONG_OVER);
        due(x.book(0, 0), 12);
        due(x.book(1, 0), 0);
        due(x.book(0, Long.MIN_VALUE), Long.MIN_VALUE);
        due(x.book(1, -1), LONG_OVER);
        due(x.book(2, -1), LONG_OVER);
        due(x.book(0, -1), LONG_OVER);
        due(x.book(1, 1), Long.MIN_VALUE);
        due(x.book(2, Long.MIN_VALUE), 1);
        due(x.book(1, Long.MIN_VALUE), Long.MIN_VALUE);
        due(x.book(2, 1L << 32), -(1L << 31));
        due(x.book(1, 1L << 32), Long.MIN_VALUE);
        due(x.book(2, -2), 1L << 62);
        due(x.book(1, 2), LONG_OVER);
        due(x.book(1, -2), Long.MIN_VALUE);
    }

    private static void p35() {
        LeaderTerms x = new LeaderTerms();
        due(x.seed(MIN), 1);
        due(x.seed(-1000001), MIN);
        due(x.seed(0), -1000001);
        due(x.count(3), 0);
        due(x.status(-1), 0);
        x.loose(1);
        due(x.count(3), 12345);
        due(x.termOf(0), 48 % 21);
    }

    private static void p36() {
        LeaderTerms x = oneGood(20);
        sheet(x, 0, 1, 0, 10, 20, 30, 40, 50, 60, 70, 80, 90, 100);
        x.most(1);
        due(x.fits(0, 0, 0), 1 + 32);
        due(x.fits(0, 0, 1), 2);
        x.write(0, 10, 0);
        due(x.fits(0, 0, 0), 2 + 4 + 16);
        x.write(0, 10, -999);
        due(x.fits(0, 0, 1), 5);
        x.become(0, 21);
        due(x.fits(0, 0, 0), 1 + 2 + 4 + 32);
        due(x.of(0, 0), 2);
        sheet(x, 1, 2);
        due(x.fits(1, 0, 0), 127);
        due(x.fits(1, 0, 1), 7);
        due(x.fits(2, 0, 0), MISSING);
        due(x.fits(2, 0, 2), BEYOND);
        due(x.fits(2, 1, 0), BEYOND);
        due(x.fits(4, 0, 0), BEYOND);
        due(x.fits(-1, 0, 0), BEYOND);
        // Gains are cut toward 0, also below it.
        x.budget(0, 18, 10);
        x.good(0, 0, 2, -2);
        sheet(x, 1, 0, -6, -3);
        due(x.fits(1, 0, 1), 7);
        sheet(x, 1, 0, -7, -3);
        due(x.fits(1, 0, 1), 0);
    }

    private static void p37() {
        LeaderTerms x = oneGood(0);
        due(x.prove(), 2);
        due(x.count(4), 2);
        x.most(10);
        due(x.prove(), 1);
        due(x.count(4), 1);
        due(new LeaderTerms().prove(), 1);
    }

    private static void p38() {
        LeaderTerms x = oneGood(0);
        due(x.row(0, 0), FAR);
        x.prove();
        long[][] due = {{10, 1, 0, 1, 100, 1}, {0, 1, 0, 1, 0, 1}};
        for (int k = 0; k < 2; k++) {
            for (int what = 0; what < 6; what++) {
                due(x.row(k, what), due[k][what]);
            }
        }
        due(x.row(2, 0), FAR);
        due(x.row(-1, 0), FAR);
        due(x.row(0, 6), FAR);
        due(x.row(0, -1), FAR);
    }

    private static void p39() {
        LeaderTerms x = oneGood(0);
        due(x.alter(0, 0, 5), FAR);
        x.prove();
        due(x.alter(0, 4, Long.MIN_VALUE), 100);
        due(x.alter(0, 4, FAR), Long.MIN_VALUE);
        due(x.row(0, 4), FAR);
        due(x.status(-1), 1);
        due(x.alter(2, 0, 5), FAR);
        due(x.alter(0, 6, 5), FAR);
        due(x.alter(-1, 0, 5), FAR);
        due(x.piece(0, 4), 100);
    }

    private static void p40() {
        LeaderTerms x = oneGood(0);
        due(x.judge(), 1);
        x.prove();
        due(x.judge(), 0);
        x.alter(1, 5, 2);
        due(x.judge(), 2);
        x.alter(1, 5, 1);
        due(x.judge(), 0);
        x.alter(0, 3, -1);
        x.alter(1, 3, -1);
        due(x.judge(), 1);
        x.prove();
        x.most(10);
        due(x.judge(), 2);
        x.prove();
        x.most(20);
        due(x.judge(), 2);
        x.term(5, 1);
        x.prove();
        due(x.judge(), 0);
        // CAUTIOUS turns at the same term, with the same straight lines.
        x.become(0, 10);
        due(x.judge(), 0);
        x.become(0, 30);
        due(x.judge(), 1);
    }

    private static void p41() {
        LeaderTerms x = new LeaderTerms();
        due(x.sheet(0, 2, 40), 40);
        due(x.item(0, 39), 0);
        due(x.sheet(0, 0, 41), BEYOND);
        due(x.sheet(0, 0, -1), SIZE);
        due(x.sheet(0, 3, -1), BEYOND);
        due(x.sheet(0, -2, 1), BEYOND);
        due(x.sheet(4, 0, -1), BEYOND);
        due(x.sheet(-1, 0, 1), BEYOND);
        due(x.sheet(0, 1, MIN), SIZE);
        due(x.item(0, 39), 0);
        due(x.sheet(0, -1, -5), 0);
        due(x.item(0, 0), LONG_MISSING);
        due(x.sheet(0, -1, 99), 0);
        due(x.sheet(3, 1, 0), 0);
        due(x.item(3, 0), FAR);
        x.sheet(3, 1, 2);
        x.write(3, 1, 7);
        x.sheet(3, 1, 2);
        due(x.item(3, 1), 0);
    }

    private static void p42() {
        LeaderTerms x = new LeaderTerms();
        x.sheet(0, 0, 2);
        x.sheet(1, 1, 2);
        x.sheet(2, 2, 2);
        for (int s = 0; s < 3; s++) {
            due(x.write(s, 1, 0x123456789ABCDEFL), 1);
        }
        due(x.item(0, 1), -17);
        due(x.item(1, 1), 0x89ABCDEF);
        due(x.item(2, 1), 0x123456789ABCDEFL);
        due(x.write(0, 2, 1), BEYOND);
        due(x.write(0, -1, 1), BEYOND);
        due(x.write(3, -1, 1), MISSING);
        due(x.write(4, 0, 1), BEYOND);
        due(x.write(-1, 0, 1), BEYOND);
    }

    private static void p43() {
        LeaderTerms x = new LeaderTerms();
        sheet(x, 1, 2, 5, Long.MIN_VALUE);
        due(x.item(1, 0), 5);
        due(x.item(1, 1), Long.MIN_VALUE);
        due(x.item(1, 2), FAR);
        due(x.item(1, -1), FAR);
        due(x.item(0, 9), LONG_MISSING);
        due(x.item(4, 0), FAR);
        due(x.item(-1, 0), FAR);
    }

    private static void p44() {
        LeaderTerms x = new LeaderTerms();
        sheet(x, 0, 1, 1, 2, 3, 4);
        sheet(x, 1, 1, 9, 9);
        sheet(x, 2, 2, 9, 9);
        due(x.copy(0, 0, 0, 1, 3), 3);
        due(x.item(0, 1), 1);
        due(x.item(0, 3), 3);
        due(x.copy(0, 1, 0, 0, 3), 3);
        due(x.item(0, 0), 1);
        due(x.item(0, 2), 3);
        due(x.copy(0, 2, 1, 1, 1), 1);
        due(x.item(1, 1), 3);
        due(x.item(1, 0), 9);
        due(x.copy(0, 0, 2, 0, 1), KIND);
        due(x.copy(0, -1, 2, 0, 1), KIND);
        due(x.copy(0, 0, 3, 0, 1), MISSING);
        due(x.copy(3, 0, 0, 0, 1), MISSING);
        due(x.copy(4, 0, 3, 0, 1), BEYOND);
        due(x.copy(3, 0, 4, 0, 1), BEYOND);
        due(x.copy(0, 0, 1, 0, 3), BEYOND);
        due(x.copy(1, 0, 0, 0, 3), BEYOND);
        due(x.copy(0, -1, 1, 0, 1), BEYOND);
        due(x.copy(0, 0, 1, -1, 1), BEYOND);
        due(x.copy(0, 0, 1, 0, -1), BEYOND);
        due(x.copy(0, MAX, 1, 0, MAX), BEYOND);
        due(x.copy(0, 4, 1, 2, 0), 0);
        due(x.copy(0, 5, 1, 0, 0), BEYOND);
    }

    private static void p45() {
        LeaderTerms x = oneGood(0);
        due(x.hold(0, 0, 1), BEYOND);
        due(x.hold(0, 0, -1), BEYOND);
        due(x.hold(0, 2, 4), BEYOND);
        due(x.hold(0, 2, -1), BEYOND);
        due(x.hold(0, 4, 0), BEYOND);
        due(x.hold(0, -1, 0), BEYOND);
        due(x.hold(10, 3, 0), BEYOND);
        due(x.hold(-1, 3, 0), BEYOND);
        due(x.count(5), 0);
        due(x.hold(9, 0, 0), 1);
        due(x.hold(8, 1, 99), 1);
        due(x.count(5), 2);
        due(x.hold(8, 2, 0), 1);
        due(x.count(5), 1);
        x.sheet(0, 1, 3);
        due(x.count(5), 1);
        due(x.hold(8, 2, 0), 1);
        due(x.hold(9, 3, -7), 1);
        due(x.count(5), 1);
        due(x.taken(9, 0), MISSING);
        // The row stays as it was when its sheet gets another one.
        x.sheet(0, 2, 5);
        due(x.taken(8, 9), 3);
        x.sheet(0, -1, 0);
        due(x.taken(8, 9), 3);
    }

    private static void p46() {
        LeaderTerms x = oneGood(0);
        x.hold(0, 0, 0);
        String[] under = {"0", "01", "02", "013", "024", "025", "0136"};
        for (int kind = 0; kind < 7; kind++) {
            x.become(0, 10 * kind);
            for (int as = 0; as <= 10; as++) {
                boolean is = as < 7 && under[kind].indexOf('0' + as) >= 0;
                due(x.taken(0, as), is ? 0 : KIND);
            }
        }
        x.term(15, 4);
        x.hold(1, 1, 0);
        x.term(1, 1);
        due(x.taken(1, 7), 3);
        due(x.taken(1, 8), KIND);
        due(x.taken(1, 0), KIND);
        for (int sort = 0; sort < 3; sort++) {
            x.sheet(sort, sort, 4 + sort);
            x.hold(2, 2, sort);
            for (int as = 0; as <= 10; as++) {
                due(x.taken(2, as), as == 8 + sort ? 4 + sort : KIND);
            }
        }
        due(x.taken(2, 11), BEYOND);
        due(x.taken(2, -1), BEYOND);
        due(x.taken(10, 0), BEYOND);
        due(x.taken(-1, 0), BEYOND);
        due(x.taken(3, 0), MISSING);
        // A follower that there is no more is nothing, until there is one such again.
        x.image();
        x.follower(20, 1);
        x.hold(3, 0, 1);
        due(x.taken(3, 2), 1);
        x.back();
        due(x.taken(3, 2), MISSING);
        due(x.count(5), 3);
        x.follower(10, 1);
        due(x.taken(3, 2), KIND);
        due(x.taken(3, 1), 1);
    }

    private static void p47() {
        LeaderTerms x = oneGood(35);
        due(x.image(), 1);
        x.become(0, 0);
        due(x.image(), 1);
        x.become(0, 10);
        x.back();
        due(x.of(0, 0), 0);
        due(new LeaderTerms().image(), 1);
    }

    private static void p48() {
        LeaderTerms x = oneGood(35);
        due(x.back(), NONE);
        x.bind(0, ONE, 4);
        x.good(0, 0, 0, 12);
        x.good(0, 0, 2, 6);
        x.term(7, 2);
        x.book(0, 77);
        x.seed(9);
        x.round();
        long total = x.total(0, 0);
        x.image();
        x.loosen(0, 1);
        x.budget(0, 26, 3);
        x.good(0, 0, 0, 1);
        x.good(0, 0, 1, 0);
        x.good(0, 0, 2, 0);
        x.become(0, 0);
        x.term(1, 1);
        x.most(3);
        x.loose(3);
        x.book(1, 5);
        x.follower(0, 3);
        x.sheet(0, 1, 3);
        x.hold(0, 1, 0);
        x.prove();
        int findings = x.status(-1);
        for (int again = 0; again < 2; again++) {
            due(x.back(), 1);
            due(x.of(0, 0), 3);
            due(x.of(0, 1), 5);
            due(x.rowOf(0, 1, 3), 4);
            due(x.rowOf(0, 0, 0), 1);
            due(x.rowOf(0, 0, 3), 10);
            due(x.goodOf(0, 0, 0), 12);
            due(x.goodOf(0, 0, 1), 1);
            due(x.goodOf(0, 0, 2), 6);
            due(x.termOf(0), 7);
            due(x.total(0, 0), total);
            due(x.count(1), 20);
            due(x.count(2), 1);
            due(x.count(3), 9);
            due(x.count(7), 77 + total);
            due(x.amount(0, 1, 0, 0), 4);
            due(x.status(-1), findings);
            x.become(0, 20);
            x.bind(0, ONE, 1);
            x.seed(3);
        }
        due(x.item(0, 2), 0);
        due(x.taken(0, 7), x.taken(0, 7));
        due(x.count(5), 1);
        due(x.count(4) > 0 ? 1 : 0, 1);
    }

    private static void p49() {
        LeaderTerms x = oneGood(0);
        x.most(30);
        x.seed(-4);
        x.prove();
        x.hold(4, 0, 0);
        x.round();
        x.book(0, -2147483648L);
        int[] due = {1, 30, 1, -4, 2, 1, 2, MIN};
        for (int what = 0; what < 8; what++) {
            due(x.count(what), due[what]);
        }
        x.book(0, -1);
        due(x.count(7), OVER);
        x.book(1, -1);
        due(x.count(7), OVER);
        x.book(0, -2);
        due(x.count(7), MAX);
        due(x.count(8), BEYOND);
        due(x.count(-1), BEYOND);
        due(x.count(4), 2);
    }

    private static void p50() {
        LeaderTerms x = oneGood(0);
        x.become(0, 99);
        x.termOf(5);
        x.follower(0, 1);
        x.follower(0, 1);
        x.follower(0, 1);
        x.sheet(0, 1, 1);
        x.sheet(1, 2, 1);
        x.copy(0, 0, 1, 0, 1);
        x.book(2, 0);
        x.back();
        x.openAt(0, 9);
        x.term(3, 1);
        x.most(2);
        x.item(3, 0);
        x.sheet(3, 0, -1);
        x.book(0, Long.MAX_VALUE);
        x.book(0, 1);
        x.count(7);
        int[] due = {2, 1, 1, 3, 1, 1, 1, 2};
        for (int which = 0; which < 8; which++) {
            due(x.status(which), due[which]);
        }
        due(x.status(-1), 12);
        due(x.status(8), BEYOND);
        due(x.status(0), 3);
        due(x.status(-2), BEYOND);
        due(x.status(-1), 14);
        x.image();
        x.follower(0, 0);
        x.back();
        due(x.status(0), 5);
    }
}
