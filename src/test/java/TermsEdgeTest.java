/** The document's part "Terms": each sentence, with its boundary cases. */
public final class TermsEdgeTest {
    private static final int BEYOND = Run.BEYOND;
    private static final int FULL = Run.FULL;
    private static final int KIND = Run.KIND;
    private static final int NONE = Run.NONE;
    private static final int STATE = Run.STATE;
    private static final int MISSING = Run.MISSING;
    private static final int SIZE = Run.SIZE;
    private static final int OVER = Run.OVER;

    /** (0, 0, 0), (0, 0, 10), (0, 10, 0), (10, 0, 0): three goods that pay alike. */
    private static final String[] ALIKE = {"follower 0 3"};

    public static void main(String[] args) {
        String doc = Edges.document();
        String terms = doc.substring(doc.indexOf("## Terms") + 8, doc.indexOf("Ahead of the calls"));
        Edges.begin("Terms", terms.replaceAll("```(text)?", " ").replaceAll("(?m)^[123]\\. ", ""));
        findings();
        fractions();
        ranges();
        plans();
        answers();
        total();
        best();
        breaks();
        open();
        live();
        proofs();
        rounds();
        sheets();
        Edges.end();
        Edges.exit();
    }

    private static void findings() {
        Edges.says("FINDINGS are answers LOW - k, LOW being -1000001 (of those that answer longs -1000000000000000001; a long may be as low): k 0 BEYOND, 1 FULL, 2 KIND, 3 NONE, 4 STATE, 5 MISSING, 6 SIZE, 7 OVER.");
        Run x = new Run("follower 0 1", "follower 0 1", "follower 0 1", "sheet 0 0 1", "sheet 1 1 1", "term 2 1", "book 0 LMAX");
        x.due("of 3 0", -1000001).due("follower 0 1", -1000002).due("copy 0 0 1 0 1", -1000003).due("back", -1000004).due("most 1", -1000005);
        x.due("write 3 0 1", -1000006).due("sheet 3 0 -1", -1000007).due("count 7", -1000008);
        x.due("termOf 2", -1000000000000000001L).due("book 2 0", -1000000000000000004L).due("item 3 0", -1000000000000000006L).due("book 0 1", -1000000000000000008L);
        x.dues("status", 2, 1, 1, 2, 1, 2, 1, 2).due("status -1", 12);
        x = new Run("prove", "sheet 0 2 1");
        for (long k = 0; k < 8; k++) {
            long low = -1000000000000000001L - k;
            x.due("book 0 " + low, low).due("book 0 " + -low, 0).make("write 0 0 " + low).due("item 0 0", low).due("alter 0 0 " + low, 0).due("row 0 0", low).due("alter 0 0 0", low);
        }
        x.due("status -1", 0);
        Edges.says("Each act tells its findings in the order in which they are asked (that of its words);");
        Run full = Scenes.full();
        full.refused("follower 70 0", BEYOND).refused("bind 0 343 21", BEYOND).refused("most 0", BEYOND).refused("openAt 3 -1", BEYOND);
        full.refused("weigh 3 3", BEYOND).refused("fits 3 3 2", BEYOND).refused("mostFor 10000", BEYOND).refused("sheet 4 3 -1", BEYOND).refused("sheet 0 0 -1", SIZE);
        full.refused("write 4 -1 0", BEYOND).refused("write 3 -1 0", MISSING).refused("item 4 -1", BEYOND).refused("item 3 -1", MISSING);
        full.refused("copy 4 -1 3 -1 -1", BEYOND).refused("copy 3 -1 2 -1 -1", MISSING).refused("copy 0 -1 2 -1 -1", KIND).refused("copy 0 -1 0 -1 -1", BEYOND);
        full.refused("taken 3 11", BEYOND).refused("book 3 0", BEYOND).refused("loose 0", BEYOND);
        new Run().refused("total 1 2", BEYOND).refused("total 1 1", NONE);
        Edges.says("one that answers a finding changes nothing but status().");
        full = Scenes.full().make("loosen 0 3", "bind 0 5 5", "book 0 " + (Long.MAX_VALUE - 200), "good 2 0 1 0", "good 2 0 2 9");
        String[] calls = {"follower 0 1", "become 0 70", "of 0 7", "good 0 0 0 21", "goodOf 0 2 0", "budget 0 27 0", "bind 0 0 0", "loosen 0 0", "rowOf 0 4 0",
            "most 1", "term 32 1", "termOf 2", "amount 0 0 2 0", "brings 0 -2 0 0", "total 3 0", "opens 0 3", "openAt 0 128", "isOpen 0 64", "price 0 4 0",
            "weigh 3 0", "breaks 3", "breakAt -1 99 0", "piece 99 0", "best 5", "asKind 7 0", "kindFor 3", "tollFor 0 2", "without 3", "mostFor 9999", "loose 20",
            "book 0 300", "fits 3 0 0", "row 99 0", "alter 0 6 1", "sheet 0 0 -1", "write 3 0 1", "item 3 0", "copy 0 0 1 0 1", "hold 0 0 3", "taken 2 8", "count 7", "status 8"};
        int[] findings = {FULL, BEYOND, BEYOND, BEYOND, BEYOND, BEYOND, FULL, BEYOND, BEYOND,
            STATE, BEYOND, BEYOND, BEYOND, BEYOND, BEYOND, BEYOND, NONE, BEYOND, BEYOND,
            MISSING, BEYOND, BEYOND, BEYOND, BEYOND, BEYOND, BEYOND, BEYOND, BEYOND, NONE, OVER,
            OVER, MISSING, BEYOND, BEYOND, SIZE, MISSING, MISSING, KIND, BEYOND, KIND, OVER, BEYOND};
        for (int i = 0; i < calls.length; i++) {
            full.refused(calls[i], findings[i]);
        }
    }

    private static void fractions() {
        Edges.says("Fractions are told in lowest terms: part 0 above, 1 below the line (above 0; 0 is 0 by 1).");
        Run x = new Run("term 6 4").dues("termOf", 3, 2).make("term 2000000 2000000").dues("termOf", 1, 1).make("term 0 2000000").dues("termOf", 0, 1);
        x = new Run("follower 0 1", "budget 0 9 10", "good 0 0 2 -9", "good 0 0 1 3", "term 7 2");
        // 5 of it: NET -5/2, GAIN 15/2; at 17/6 -5/2; at 3 it is 0.
        x.dues("amount 0 1 0", 5, 1).dues("brings 0 1 0", -5, 2).dues("brings 0 1 1", 15, 2).make("term 17 6").dues("brings 0 1 1", -5, 2);
        x.make("term 3 1").dues("brings 0 1 1", 0, 1).dues("total 0", 0, 1).dues("price 0 0", 1, 2).dues("brings 0 0 0", 0, 1);
        x.dues("piece 0", 15, 1, -45, 1, 5, 1).dues("breakAt 0 0", 10, 3);
        new Run("follower 0 1", "budget 0 18 10", "good 0 0 2 -1").dues("piece 0", 10, 3, -10, 3, 30, 1).make("most 1").dues("best", 0, 1, 1, 1, 0);
        Edges.says("Sets are told by bits.");
        new Run(ALIKE).due("of 0 6", 2 + 4 + 8).due("openAt 0 0", 1).make("sheet 0 0 0").due("fits 0 0 0", 127);
    }

    private static void ranges() {
        Edges.says("THE TERM: a fraction from 0 to MOST (0 at first; MOST 1 to 40, 20 at first).");
        new Run().dues("termOf", 0, 1).due("count 1", 20).range("term ? 1", 0, 20, BEYOND).range("most ?", 1, 40, BEYOND);
        Edges.says("FOLLOWERS 0, 1, .. (at most 3), of KINDS: 0 FOLLOWER; 1 CAUTIOUS, 2 PLAIN under FOLLOWER; 3 SHARP under CAUTIOUS; 4 DULL, 5 LATE under PLAIN; 6 GRIM under SHARP;");
        new Run().due("follower 0 1", 0).due("follower 0 1", 1).due("follower 0 1", 2).refused("follower 0 1", FULL);
        String[] as = {"1000000", "1100000", "1010000", "1101000", "1010100", "1010010", "1101001"};
        for (int kind = 0; kind < 7; kind++) {
            Run x = new Run("follower " + kind + "0 1", "hold 0 0 0");
            for (int k = 0; k < 7; k++) {
                x.due("taken 0 " + k, as[kind].charAt(k) == '1' ? 0 : Run.findingOf("taken", KIND));
            }
        }
        Edges.says("with a number m (0 to 9) and 1 to 3 GOODS;");
        new Run("follower 40 1", "follower 49 3").due("of 0 1", 0).due("of 1 1", 9).due("of 0 2", 1).due("of 1 2", 3).range("follower 0 ?", 1, 3, BEYOND);
        Edges.says("each GOOD with a WORTH (0 to 20; 10 at first), a TOLL (0 to 3; 1), a SIDE (-9 to 9; 0).");
        Run x = new Run(ALIKE).dues("goodOf 0 0", 10, 1, 0).dues("goodOf 0 1", 10, 1, 0).dues("goodOf 0 2", 10, 1, 0);
        x.range("good 0 2 0 ?", 0, 20, BEYOND).range("good 0 2 1 ?", 0, 3, BEYOND).range("good 0 2 2 ?", -9, 9, BEYOND);
        Edges.says("ROWS of a FOLLOWER (at most 4): a number of each GOOD and a BOUND (0 to 20).");
        x.range("bind 0 171 ?", 0, 20, BEYOND).range("budget 0 0 ?", 0, 20, BEYOND);
        x.due("bind 0 0 0", 1).due("bind 0 0 0", 2).due("bind 0 0 0", 3).refused("bind 0 0 0", FULL).due("of 0 3", 4);
        Edges.says("ROW 0, THE BUDGET: numbers 1 to 3 (1 at first; BOUND 10); others: numbers -3 to 3.");
        x = new Run(ALIKE).dues("rowOf 0 0", 1, 1, 1, 10).make("budget 0 26 10").dues("rowOf 0 0", 3, 3, 3, 10);
        x.make("bind 0 0 1", "bind 0 342 1").dues("rowOf 0 1", -3, -3, -3, 1).dues("rowOf 0 2", 3, 3, 3, 1);
    }

    private static void plans() {
        Edges.says("AMOUNTS of its GOODS that it may choose: none below 0, and in no ROW the sum of AMOUNTS times its numbers above its BOUND.");
        // A row with numbers below 0 binds nothing; one with 3 to 20 leaves 20/3.
        new Run("follower 0 1").due("amount 0 1 0 0", 10).make("bind 0 0 0").due("of 0 4", 2).due("amount 0 1 0 0", 10).make("bind 0 318 20").dues("amount 0 1 0", 20, 3);
        new Run("follower 0 1", "bind 0 196 0").due("of 0 4", 1).due("of 0 5", 0);
        // Good 0 is no more than good 1: (0, 0), (0, 10), (5, 5).
        new Run("follower 0 2", "bind 0 213 0").due("of 0 4", 3).dues("amount 0 2 0", 5, 1).dues("amount 0 2 1", 5, 1);
        Edges.says("PAIRS: PAIR i of each ROW i, then, behind all ROWS, one of each GOOD.");
        // It takes nothing: its good is pair 2, and alone is in.
        new Run("follower 0 1", "bind 0 196 20", "term 15 1").due("openAt 0 0", 4).due("opens 0 0", 1).range("isOpen 0 ?", 0, 7, BEYOND);
        // It takes good 0: the budget (pair 0) and good 1 (pair 2) are in.
        new Run("follower 0 2", "good 0 1 0 5").due("openAt 0 0", 5).make("bind 0 171 1").due("openAt 0 0", 1 + 8).range("isOpen 0 ?", 0, 15, BEYOND);
        Edges.says("AMOUNTS are TIGHT in the PAIR of a ROW if that sum is its BOUND, in that of a GOOD if its AMOUNT is 0.");
        // Row 1 just touches 10, or leaves it room.
        new Run("follower 0 1", "bind 0 196 10").dues("isOpen 0", 0, 1, 1, 1).make("loosen 0 1", "bind 0 196 11").dues("isOpen 0", 0, 1, 0, 0);
        new Run("follower 0 1", "bind 0 147 0").dues("isOpen 0", 0, 1, 0, 1).make("loosen 0 1", "bind 0 147 1").dues("isOpen 0", 0, 1, 0, 0);
        Edges.says("PLANS: AMOUNTS that it may choose, and the only ones at all that are TIGHT in all PAIRS in which they are;");
        // Rows that meet in one corner, one that is tight everywhere, two that leave but a line.
        new Run("follower 0 2", "bind 0 220 5", "bind 0 234 15", "bind 0 178 5").due("of 0 4", 4).dues("amount 0 3 0", 5, 1).dues("amount 0 3 1", 5, 1);
        new Run("follower 0 2", "bind 0 171 0", "bind 0 171 0", "bind 0 171 0").due("of 0 4", 3);
        new Run("follower 0 2", "bind 0 213 0", "bind 0 129 0").due("of 0 4", 2).dues("amount 0 1 0", 5, 1).dues("amount 0 1 1", 5, 1);
        new Run("follower 0 3", "budget 0 0 0").due("of 0 4", 1).make("bind 0 0 0", "bind 0 342 0").due("of 0 4", 1);
        Edges.says("numbered from 0 on by the AMOUNT of GOOD 0, of like ones of GOOD 1, then 2, the lesser ahead.");
        Run x = new Run(ALIKE);
        for (int plan = 0; plan < 4; plan++) {
            x.due("amount 0 " + plan + " 0 0", plan == 3 ? 10 : 0).due("amount 0 " + plan + " 1 0", plan == 2 ? 10 : 0).due("amount 0 " + plan + " 2 0", plan == 1 ? 10 : 0);
        }
        x = new Run("follower 0 2", "bind 0 318 7").due("of 0 4", 4);
        x.dues("amount 0 1 1", 10, 1).dues("amount 0 2 0", 7, 3).dues("amount 0 2 1", 0, 1).dues("amount 0 3 0", 7, 3).dues("amount 0 3 1", 23, 3);
    }

    private static void answers() {
        Edges.says("FEELS (the TERM x): FOLLOWER, CAUTIOUS, PLAIN, LATE: x. SHARP: twice that of a CAUTIOUS one. DULL: m more than a PLAIN one. GRIM: m more than a SHARP one.");
        for (int m = 0; m < 10; m++) {
            long[] feels = {3, 3, 3, 6, 3 + m, 3, 6 + m};
            for (int kind = 0; kind < 7; kind++) {
                new Run("follower " + (10 * kind + m) + " 1", "good 0 0 0 20", "term 3 1").due("brings 0 1 0 0", 10 * (20 - feels[kind])).due("brings 0 1 1 0", 30)
                    .make("term 0 1").due("brings 0 1 0 0", 200 - (kind == 4 || kind == 6 ? 10 * m : 0));
            }
        }
        Edges.says("NET of a PLAN: the sum of AMOUNTS times (WORTH less FEELS times TOLL).");
        // 5 and 5 of two goods: 5 * (20 - 2 * 3) + 5 * (0 - 2 * 0).
        Run x = new Run("follower 30 2", "good 0 0 0 20", "good 0 0 1 3", "good 0 1 0 0", "good 0 1 1 0", "bind 0 220 5", "term 1 1");
        x.due("amount 0 3 1 0", 5).due("brings 0 3 0 0", 70).due("brings 0 0 0 0", 0).make("term 20 1").due("brings 0 3 0 0", -500);
        Edges.says("GAIN: the sum of AMOUNTS times (x times TOLL and SIDE).");
        x.make("good 0 0 2 -9", "good 0 1 2 9").due("brings 0 3 1 0", 300).make("term 0 1").due("brings 0 3 1 0", 0).due("brings 0 2 1 0", -45).due("brings 0 0 1 0", 0);
        Edges.says("BEST PLANS: those with the greatest NET.");
        x = new Run(ALIKE).due("of 0 6", 14).make("term 19999999 2000000").due("of 0 6", 14).make("term 10 1").due("of 0 6", 15).make("term 20000001 2000000").due("of 0 6", 1);
        x.make("term 0 1", "good 0 1 0 11").due("of 0 6", 4).make("good 0 1 0 9").due("of 0 6", 10);
        Edges.says("ANSWER: of the BEST PLANS: FOLLOWER: that with the greatest GAIN, of several the least number.");
        new Run(ALIKE).due("of 0 5", 1).make("good 0 0 2 5", "good 0 1 2 5").due("of 0 5", 2).make("good 0 0 2 6").due("of 0 5", 3).make("good 0 2 2 7").due("of 0 5", 1);
        new Run(ALIKE).make("term 10 1").due("of 0 5", 1).make("good 0 2 2 -9", "good 0 1 2 -9", "good 0 0 2 -9").due("of 0 5", 1);
        // Where all bring the leader the same, also nothing.
        new Run(ALIKE).make("good 0 0 1 0", "good 0 1 1 0", "good 0 2 1 0", "good 0 0 0 0", "good 0 1 0 0", "good 0 2 0 0").due("of 0 6", 15).due("of 0 5", 0);
        Edges.says("CAUTIOUS, SHARP, GRIM: that with the least GAIN, of several the least number.");
        for (int kind : new int[] {1, 3, 6}) {
            x = new Run(ALIKE).make("become 0 " + 10 * kind).due("of 0 5", 1).make("good 0 2 2 5").due("of 0 5", 2).make("good 0 0 2 -1").due("of 0 5", 3);
            x.make("term " + (kind == 1 ? 10 : 5) + " 1").due("of 0 6", 15).due("of 0 5", 0).make("good 0 0 2 -9").due("of 0 5", kind == 1 ? 0 : 3);
        }
        Edges.says("PLAIN, DULL: the least number.");
        for (int kind : new int[] {2, 4}) {
            x = new Run(ALIKE).make("become 0 " + 10 * kind).due("of 0 5", 1).make("good 0 2 2 -9", "good 0 0 2 9").due("of 0 5", 1).make("good 0 2 2 9", "good 0 0 2 -9").due("of 0 5", 1);
            x.make("term 10 1").due("of 0 5", 0);
        }
        Edges.says("LATE: the greatest number.");
        x = new Run(ALIKE).make("become 0 50").due("of 0 5", 3).make("good 0 2 2 -9", "good 0 0 2 9").due("of 0 5", 3).make("good 0 2 2 9", "good 0 0 2 -9").due("of 0 5", 3);
        x.make("term 10 1").due("of 0 5", 3).make("term 11 1").due("of 0 5", 0);
    }

    private static void total() {
        Edges.says("TOTAL: GAINS of ANSWERS of all FOLLOWERS, together.");
        new Run("term 3 1").dues("total 0", 0, 1).make("follower 0 1").dues("total 0", 30, 1).make("follower 0 1", "budget 1 18 1").dues("total 0", 31, 1)
            .make("follower 0 1", "budget 2 9 1", "good 2 0 2 -9").dues("total 0", 28, 1).make("term 10 3").dues("total 0", 569, 18);
        Edges.says("It comes near some number from below (behind a TERM above 0), from above (one below MOST): as lesser, greater TERMS come near that TERM.");
        Run x = new Run("follower 10 1", "term 10 1").dues("total 0", 0, 1).dues("total 1", 100, 1).dues("total 2", 0, 1);
        x.make("become 0 0").dues("total 0", 100, 1).dues("total 1", 100, 1).dues("total 2", 0, 1);
        // It turns at 1/2000000 of a term beyond 0, as good as there, not there; and as close to MOST.
        x = new Run("follower 49 1", "good 0 0 0 9", "good 0 0 2 1").dues("total 0", 0, 1).dues("total 2", 0, 1).refused("total 1 0", NONE);
        x.make("become 0 0", "good 0 0 0 0").dues("total 0", 10, 1).dues("total 2", 0, 1).make("term 1 2000000").dues("total 1", 0, 1);
        x = new Run("follower 10 1", "good 0 0 0 20", "term 20 1").dues("total 0", 0, 1).dues("total 1", 200, 1).refused("total 2 0", NONE);
        x.make("most 21").dues("total 2", 0, 1).make("term 39999999 2000000").dues("total 2", 39999999, 200000).dues("total 1", 39999999, 200000);
    }

    private static void best() {
        Edges.says("BEST OF ALL: the greatest number that TOTAL is or comes near to, for TERMS 0 to MOST.");
        new Run("follower 0 1").due("best 0", 100).make("most 10").due("best 0", 100).make("most 9").due("best 0", 90).make("most 1").due("best 0", 10);
        new Run("follower 0 1", "good 0 0 0 0", "good 0 0 2 9").due("best 0", 90).make("good 0 0 2 -9").due("best 0", 0).make("good 0 0 0 20").due("best 0", 110).make("most 1").due("best 0", -80);
        Edges.says("WHERE: the least TERM at which it is so, or nears it from below or above;");
        // 100 at 5 from both, at 10 from one; level pieces; nothing at all.
        new Run("follower 0 1", "follower 0 1", "good 1 0 0 5").dues("best", 100, 1, 5, 1, 0).make("become 1 10").dues("best", 100, 1, 5, 1, 1);
        new Run("follower 0 1", "follower 0 1", "good 1 0 0 5", "become 0 10").dues("best", 100, 1, 5, 1, 0).make("good 1 0 0 4").dues("best", 100, 1, 10, 1, 1);
        new Run("follower 0 1", "good 0 0 1 0", "good 0 0 2 9").dues("best", 90, 1, 0, 1, 0);
        new Run("follower 0 1", "budget 0 0 0").dues("best", 0, 1, 0, 1, 0);
        Edges.says("HOW there: 0 it is so, 1 it isn't, but nears it from below, 2 neither, from above.");
        new Run("follower 0 1").dues("best", 100, 1, 10, 1, 0).make("become 0 10").dues("best", 100, 1, 10, 1, 1);
        // At 3 it is -60; it nears 0 from both sides.
        new Run("follower 10 2", "good 0 0 0 9", "good 0 0 1 3", "good 0 0 2 -9", "good 0 1 0 3", "good 0 1 2 -9", "term 3 1").dues("total 0", -60, 1)
            .dues("total 1", 0, 1).dues("total 2", 0, 1).dues("best", 0, 1, 3, 1, 1);
        new Run("follower 10 1", "good 0 0 0 7", "good 0 0 1 2", "good 0 0 2 -9", "most 4").dues("best", 0, 1, 7, 2, 2).make("become 0 0").dues("best", 0, 1, 7, 2, 0);
    }

    private static void breaks() {
        Edges.says("BREAKS of a FOLLOWER: TERMS above 0 and below MOST at which two of its BEST PLANS have unlike sums of AMOUNTS times TOLL.");
        new Run("follower 0 1").due("breaks 0", 1).make("most 10").due("breaks 0", 0).make("most 11", "good 0 0 0 0").due("breaks 0", 0).make("good 0 0 0 1").due("breaks 0", 1);
        // Two plans that are always as good, with like tolls, are no break; three that meet are one.
        new Run("follower 0 2").due("breaks 0", 1).dues("breakAt 0 0", 10, 1).make("most 10").due("breaks 0", 0);
        new Run("follower 0 2", "good 0 0 0 9", "good 0 0 1 3", "good 0 1 0 3").due("breaks 0", 1).dues("breakAt 0 0", 3, 1);
        // From good 0 (20, 3) at 5 to good 1 (10, 1), which it leaves at 10.
        new Run("follower 0 2", "good 0 0 0 20", "good 0 0 1 3").due("breaks 0", 2).dues("breakAt 0 0", 5, 1).dues("breakAt 0 1", 10, 1);
        // Not where others are better: (12, 3) would meet (10, 1) at 1, (9, 2) is never best.
        new Run("follower 0 3", "good 0 0 0 12", "good 0 0 1 3", "good 0 2 0 9", "good 0 2 1 2").due("breaks 0", 2).dues("breakAt 0 0", 1, 1).dues("breakAt 0 1", 10, 1);
        Edges.says("BREAKS of all: those of any, each once.");
        new Run("follower 0 1", "follower 10 1", "follower 30 1", "good 2 0 0 20").due("breaks -1", 1).make("become 2 31").due("breaks -1", 1).make("become 2 61").due("breaks -1", 2);
        new Run().due("breaks -1", 0);
        Edges.says("PIECES: between 0, BREAKS of all, MOST, one by one;");
        new Run().due("count 6", 1).make("follower 0 1").due("count 6", 2).make("follower 30 1").due("count 6", 3).make("most 10").due("count 6", 2).make("most 5").due("count 6", 1);
        Edges.says("within one TOTAL is a straight line: SLOPE (how much more for 1 of the TERM), LEFT, RIGHT: what it nears at its ends.");
        Run x = new Run("follower 10 1", "follower 30 1", "budget 1 18 10", "good 1 0 2 -9");
        x.dues("piece 0", 40, 3, -30, 1, 110, 3).dues("piece 1", 10, 1, 50, 1, 100, 1).dues("piece 2", 0, 1, 0, 1, 0, 1);
        // What it is at an end doesn't count: at 0 a good that is worth nothing is taken.
        new Run("follower 0 1", "good 0 0 0 0", "good 0 0 2 9").dues("total 0", 90, 1).dues("piece 0", 0, 1, 0, 1, 0, 1);
        new Run("follower 10 1", "most 10", "term 10 1").dues("total 0", 0, 1).dues("piece 0", 10, 1, 0, 1, 100, 1);
    }

    private static void open() {
        Edges.says("PRICES (at the TERM as it is): a number of each ROW, none below 0, such that for each GOOD the sum of PRICES times its numbers in ROWS is no less than its WORTH less FEELS times TOLL.");
        new Run("follower 0 1").dues("price 0 0", 10, 1).make("term 19999999 2000000").dues("price 0 0", 1, 2000000).make("term 10 1").dues("price 0 0", 0, 1)
            .make("term 20 1").dues("price 0 0", 0, 1).make("term 3 1", "become 0 34").dues("price 0 0", 4, 1).make("become 0 64").dues("price 0 0", 0, 1).make("become 0 44").dues("price 0 0", 3, 1);
        // The dearest good tells the price.
        new Run("follower 0 2", "good 0 1 0 20").dues("price 0 0", 20, 1).make("good 0 1 1 3").make("term 5 1").dues("price 0 0", 5, 1).make("term 6 1").dues("price 0 0", 4, 1);
        Edges.says("TIGHT in the PAIR of a ROW: its PRICE is 0; of a GOOD: that sum is just so much.");
        new Run("follower 0 1").dues("isOpen 0", 0, 1, 0, 0).make("term 10 1").dues("isOpen 0", 1, 1, 1, 0).make("term 15 1").dues("isOpen 0", 0, 0, 1, 0);
        Edges.says("A set of PAIRS is OPEN, if there are AMOUNTS that it may choose, TIGHT in all PAIRS of the set, and PRICES, TIGHT in all others.");
        // No pairs, and all of them.
        new Run("follower 0 3", "term 10 1").due("isOpen 0 0", 1).due("isOpen 0 15", 0).make("budget 0 0 0").due("isOpen 0 15", 1).due("isOpen 0 0", 1).due("opens 0 0", 16)
            .make("term 20000001 2000000").due("isOpen 0 0", 0).due("isOpen 0 15", 1).due("isOpen 0 14", 1).due("opens 0 0", 2);
        // Sides between corners are open, too: good 0 and good 1 pay alike, the budget alone is in.
        new Run("follower 0 2").due("isOpen 0 1", 1).due("isOpen 0 3", 1).due("isOpen 0 5", 1).due("opens 0 0", 3);
    }

    private static void live() {
        Edges.says("THE TREE: its root, then, PAIR by PAIR by numbers, under each node two, that PAIR being in or out;");
        new Run("follower 0 1").due("opens 0 1", 3).make("term 10 1").due("opens 0 1", 6);
        new Run("follower 0 3", "budget 0 0 0", "bind 0 171 0", "bind 0 171 0", "bind 0 171 0", "term 10 1").due("opens 0 1", 255).due("opens 0 0", 128);
        Edges.says("a node is LIVE, if there are AMOUNTS that it may choose, TIGHT in all PAIRS that are in, and PRICES, TIGHT in all that are out (those not yet gone by don't count).");
        // At 15 the node with the budget in is live, and none under it.
        new Run("follower 0 1", "term 15 1").due("opens 0 1", 4).due("opens 0 0", 1).due("openAt 0 0", 2);
        new Run("follower 0 1", "budget 0 0 0").due("opens 0 1", 4).make("term 15 1").due("opens 0 1", 5);
    }

    private static void proofs() {
        Edges.says("PROOFS: PRICES that are the only ones at all that are TIGHT in all PAIRS in which they are, and of these those of which the sum of PRICES times BOUNDS is least.");
        new Run("follower 0 1").due("opens 0 2", 1).make("bind 0 196 10").due("opens 0 2", 2).make("bind 0 196 10").due("opens 0 2", 3).make("bind 0 196 10").due("opens 0 2", 4)
            .make("loosen 0 3", "bind 0 196 9").due("opens 0 2", 1).make("term 10 1").due("opens 0 2", 1);
        // Bounds of 0 cost nothing; rows that make no price cheaper are 0 in each.
        new Run("follower 0 1", "budget 0 0 0", "bind 0 196 0").due("opens 0 2", 2).make("bind 0 147 0").due("opens 0 2", 2).make("bind 0 0 0").due("opens 0 2", 2);
        new Run("follower 0 2", "good 0 1 0 15", "bind 0 220 5", "bind 0 234 15", "bind 0 178 5").due("opens 0 2", 4);
        Edges.says("THE PROOF: the first of them: with the least PRICE of ROW 0, of like ones of ROW 1, ..");
        new Run("follower 0 1", "bind 0 196 10").dues("price 0 0", 0, 1).dues("price 0 1", 10, 1).make("bind 0 196 10").dues("price 0 1", 0, 1).dues("price 0 2", 10, 1)
            .make("bind 0 196 10").dues("price 0 2", 0, 1).dues("price 0 3", 10, 1);
        Run x = new Run("follower 0 2", "good 0 1 0 15", "bind 0 220 5", "bind 0 234 15", "bind 0 178 5");
        x.dues("price 0 0", 0, 1).dues("price 0 1", 5, 2).dues("price 0 2", 15, 2).dues("price 0 3", 0, 1);
    }

    private static void rounds() {
        Edges.says("A ROUND: LEDGER (a long; 0 at first) is more by TOTAL, cut (toward 0); ROUND (0 to 9999; 0 at first) 1 more.");
        Run x = new Run("follower 0 1", "good 0 0 2 -1").due("count 7", 0).due("count 2", 0);
        x.make("term 21 20").due("round", 0).make("term 19 20").due("round", 0).due("count 7", 0).due("count 2", 2).make("term 17 20").due("round", -1).due("count 7", -1);
        x.make("term 23 20").due("round", 1).make("term 119 100").due("round", 1).due("count 7", 1).due("count 2", 5);
        x = new Run();
        for (int i = 0; i < 499; i++) {
            x.make("loose 20");
        }
        x.make("loose 18").due("round", 0).due("count 2", 9999).due("round", Run.findingOf("round", STATE)).due("count 2", 9999);
        Edges.says("DRAWS: z is told (1 at first); each makes it z * 1103515245 + 12345 (an int), and gives z >>> 8.");
        // 4310654 is 5 by 21; then 9862832 (of an int below 0) is 14.
        new Run().due("count 3", 1).due("loose 1", 0).due("count 3", 1103527590).due("termOf 0", 4310654 % 21).due("loose 1", 0).due("count 3", 2524885223L - 4294967296L).due("termOf 0", 9862832 % 21);
        new Run("seed 0").due("loose 1", 0).due("count 3", 12345).due("termOf 0", 48 % 21);
        new Run("seed -1").due("loose 1", 0).due("count 3", -1103502900).due("termOf 0", (4294967296L - 1103502900L) / 256 % 21);
        new Run("seed MIN").due("loose 1", 0).due("count 3", -2147471303).due("termOf 0", (4294967296L - 2147471303L) / 256 % 21);
        new Run("seed MAX").due("loose 1", 0).due("count 3", 1043980748).due("termOf 0", 1043980748 / 256 % 21);
    }

    private static void sheets() {
        Edges.says("SHEETS 0 to 3: rows of bytes (sort 0), ints (1), longs (2), at most 40 numbers, or MISSING (at first).");
        for (int s = 0; s < 4; s++) {
            new Run().refused("item " + s + " 0", MISSING).range("sheet " + s + " ? 40", -1, 2, BEYOND).upTo("sheet " + s + " 0 ?", 40, BEYOND);
            Run x = new Run("sheet " + s + " 0 1", "write " + s + " 0 4294967425").due("item " + s + " 0", -127);
            x.make("sheet " + s + " 1 1", "write " + s + " 0 6442450945").due("item " + s + " 0", -2147483647).make("sheet " + s + " 2 1", "write " + s + " 0 6442450945").due("item " + s + " 0", 6442450945L);
        }
        Edges.says("SPOTS 0 to 9 hold nothing (at first), a FOLLOWER by its number (as it is when asked; nothing, if there is none such then), the TERM as it was, or the row that a SHEET was.");
        Run x = new Run().due("count 5", 0).range("hold ? 1 0", 0, 9, BEYOND);
        for (int spot = 0; spot < 10; spot++) {
            x.refused("taken " + spot + " 7", MISSING);
        }
        x = new Run("image", "follower 30 1", "term 7 2", "sheet 0 0 2", "hold 0 0 0", "hold 1 1 0", "hold 2 2 0", "become 0 50", "term 1 1", "sheet 0 2 5").due("count 5", 3);
        x.due("taken 0 5", 0).refused("taken 0 3", KIND).due("taken 1 7", 3).due("taken 2 8", 2).refused("taken 2 10", KIND);
        x.make("back").due("count 5", 2).refused("taken 0 5", MISSING).due("taken 1 7", 3).due("taken 2 8", 2).make("follower 60 1").due("count 5", 3).due("taken 0 6", 0);
        Edges.says("ROWS OF PIECES: none at first.");
        new Run().due("count 4", 0).refused("row 0 0", BEYOND).refused("alter 0 0 1", BEYOND).due("judge", 1).make("prove").due("count 4", 1);
    }
}
