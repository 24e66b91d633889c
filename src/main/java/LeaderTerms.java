/** A leader sets a term, followers answer from the corners of what they may do; DOC.md has the promises. */
public final class LeaderTerms {
    private static final int LOW = -1000001;
    private static final long LONG_LOW = -1000000000000000001L;
    private static final long LEAST_LONG = 1L << 63;

    private static final int BEYOND = 0;
    private static final int FULL = 1;
    private static final int OTHER_KIND = 2;
    private static final int NONE = 3;
    private static final int STATE = 4;
    private static final int MISSING = 5;
    private static final int SIZE = 6;
    private static final int OVER = 7;

    private static final int FOLLOWERS = 3;
    private static final int GOODS = 3;
    private static final int ROWS = 4;
    private static final int SHEETS = 4;
    private static final int SPOTS = 10;
    private static final int LONGEST_SHEET = 40;
    private static final int GREATEST_BOUND = 20;
    private static final int GREATEST_MOST = 40;
    private static final int GREATEST_BELOW = 2000000;
    private static final int GREATEST_ROUND = 9999;
    private static final int ANY = -999;

    // A body in space with 7 sides has at most 2 * 7 - 4 corners.
    private static final int PLANS = 10;
    // Each corner of the prices leaves out 3 of 7 pairs.
    private static final int PRICE_CORNERS = 35;
    // Each break leads a follower to a plan with less toll.
    private static final int BREAKS = FOLLOWERS * (PLANS - 1);
    private static final int PIECES = BREAKS + 1;
    private static final int PIECE_NUMBERS = 6;

    private static final int KINDS = 7;
    private static final int FOLLOWER = 0;
    private static final int PLAIN = 2;
    private static final int SHARP = 3;
    private static final int DULL = 4;
    private static final int LATE = 5;
    private static final int GRIM = 6;
    private static final int[] KIND_ABOVE = {-1, 0, 0, 1, 2, 2, 3};

    private static final int WORTH = 0;
    private static final int TOLL = 1;
    private static final int SIDE = 2;
    private static final int[] LEAST_TRAIT = {0, 0, -9};
    private static final int[] GREATEST_TRAIT = {20, 3, 9};
    private static final int[] FIRST_TRAIT = {10, 1, 0};

    // These are the numbers of HOW, too.
    private static final int AT = 0;
    private static final int FROM_BELOW = 1;
    private static final int FROM_ABOVE = 2;

    private static final int AS_TERM = 7;
    private static final int AS_ROW = 8;

    private final World world;
    private final World kept;
    private boolean isKept;
    private final Market market;
    private final Prices prices;
    private final Follower spare;
    private final int[] oldKinds;
    private final Fraction told;
    private final Fraction greatest;
    private final Row[] sheets;
    private final Spot[] spots;
    private final long[] pieceRows;
    private int pieceCount;
    private final long[] onePiece;
    private final int[] findings;

    public LeaderTerms() {
        world = new World();
        kept = new World();
        Square square = new Square();
        market = new Market(world, square);
        prices = new Prices(square);
        spare = new Follower();
        oldKinds = new int[FOLLOWERS];
        told = new Fraction();
        greatest = new Fraction();
        sheets = new Row[SHEETS];
        spots = new Spot[SPOTS];
        for (int i = 0; i < SPOTS; i++) {
            spots[i] = new Spot();
        }
        pieceRows = new long[PIECES * PIECE_NUMBERS];
        onePiece = new long[PIECE_NUMBERS];
        findings = new int[OVER + 1];
    }

    // ---- followers

    public int follower(int km, int goods) {
        if (isNoKind(km) || goods < 1 || goods > GOODS) {
            return tell(BEYOND);
        }
        if (world.number >= FOLLOWERS) {
            return tell(FULL);
        }
        int f = world.number;
        world.followers[f].begin(km, goods);
        market.plans[f].findAll();
        world.number++;
        return f;
    }

    public int become(int f, int km) {
        if (isNoFollower(f) || isNoKind(km)) {
            return tell(BEYOND);
        }
        int was = world.followers[f].kind;
        world.followers[f].setKind(km);
        return was;
    }

    public int of(int f, int what) {
        if (isNoFollower(f) || what < 0 || what > 6) {
            return tell(BEYOND);
        }
        Follower who = world.followers[f];
        switch (what) {
            case 0: return who.kind;
            case 1: return who.m;
            case 2: return who.goods;
            case 3: return who.rows;
            case 4: return market.plans[f].number;
            case 5: return market.answerOf(f);
            default: return market.bestPlansOf(f);
        }
    }

    public int good(int f, int good, int what, int v) {
        if (isNoTrait(f, good, what) || v < LEAST_TRAIT[what] || v > GREATEST_TRAIT[what]) {
            return tell(BEYOND);
        }
        int was = world.followers[f].traits[what * GOODS + good];
        world.followers[f].traits[what * GOODS + good] = v;
        market.plans[f].sumUp();
        return was;
    }

    public int goodOf(int f, int good, int what) {
        if (isNoTrait(f, good, what)) {
            return tell(BEYOND);
        }
        return world.followers[f].traits[what * GOODS + good];
    }

    public int budget(int f, int numbers, int bound) {
        if (isNoFollower(f) || numbers < 0 || numbers > 26 || isNoBound(bound)) {
            return tell(BEYOND);
        }
        int was = world.followers[f].bounds[0];
        world.followers[f].fillRow(0, numbers, 3, 1, bound);
        market.plans[f].findAll();
        return was;
    }

    public int bind(int f, int numbers, int bound) {
        if (isNoFollower(f) || numbers < 0 || numbers > 342 || isNoBound(bound)) {
            return tell(BEYOND);
        }
        Follower who = world.followers[f];
        if (who.rows >= ROWS) {
            return tell(FULL);
        }
        int added = who.rows;
        who.fillRow(added, numbers, 7, -3, bound);
        who.rows++;
        market.plans[f].findAll();
        return added;
    }

    public int loosen(int f, int row) {
        if (isNoRow(f, row) || row == 0) {
            return tell(BEYOND);
        }
        world.followers[f].dropRow(row);
        market.plans[f].findAll();
        return world.followers[f].rows;
    }

    public int rowOf(int f, int row, int what) {
        if (isNoRow(f, row) || what < 0 || what > GOODS) {
            return tell(BEYOND);
        }
        Follower who = world.followers[f];
        if (what == GOODS) {
            return who.bounds[row];
        }
        if (what >= who.goods) {
            return tell(BEYOND);
        }
        return who.numbers[row * GOODS + what];
    }

    // ---- the term, answers

    public int most(int v) {
        if (v < 1 || v > GREATEST_MOST) {
            return tell(BEYOND);
        }
        if (world.term.above > v * world.term.below) {
            return tell(STATE);
        }
        int was = world.most;
        world.most = v;
        return was;
    }

    public int term(long above, long below) {
        if (below < 1 || below > GREATEST_BELOW || above < 0 || above > world.most * below) {
            return tell(BEYOND);
        }
        world.term.put(above, below);
        return 1;
    }

    public long termOf(int part) {
        if (isNoPart(part)) {
            return tellLong(BEYOND);
        }
        return world.term.side(part);
    }

    public long amount(int f, int plan, int good, int part) {
        if (isNoGood(f, good) || isNoPart(part) || isNoPlan(f, plan)) {
            return tellLong(BEYOND);
        }
        Plans plans = market.plans[f];
        told.put(plans.amounts[plan * GOODS + good], plans.below[plan]);
        return told.side(part);
    }

    public long brings(int f, int plan, int what, int part) {
        if (isNoFollower(f) || what < 0 || what > 1 || isNoPart(part)) {
            return tellLong(BEYOND);
        }
        int answer = market.answerOf(f);
        int asked = plan == -1 ? answer : plan;
        if (isNoPlan(f, asked)) {
            return tellLong(BEYOND);
        }
        Plans plans = market.plans[f];
        long above = what == 0 ? plans.net[asked] : plans.gain[asked];
        told.put(above, plans.below[asked] * world.term.below);
        return told.side(part);
    }

    public long total(int how, int part) {
        if (how < AT || how > FROM_ABOVE || isNoPart(part)) {
            return tellLong(BEYOND);
        }
        Fraction x = world.term;
        if (how == FROM_BELOW && x.above == 0 || how == FROM_ABOVE && x.above >= world.most * x.below) {
            return tellLong(NONE);
        }
        market.standAll(x.above, x.below);
        market.addUp(true, how, told);
        return told.side(part);
    }

    // ---- sides, prices

    public int opens(int f, int what) {
        if (isNoFollower(f) || what < 0 || what > 2) {
            return tell(BEYOND);
        }
        findPrices(f);
        if (what == 2) {
            return prices.proofs;
        }
        int pairs = world.followers[f].pairs();
        int from = what == 0 ? pairs : 0;
        int sum = 0;
        for (int depth = from; depth <= pairs; depth++) {
            sum += liveNodes(market.plans[f], depth);
        }
        return sum;
    }

    public int openAt(int f, int k) {
        if (isNoFollower(f)) {
            return tell(BEYOND);
        }
        findPrices(f);
        int pairs = world.followers[f].pairs();
        int left = k;
        for (int set = 0; set < 1 << pairs && left >= 0; set++) {
            if (isLive(market.plans[f], pairs, set)) {
                if (left == 0) {
                    return set;
                }
                left--;
            }
        }
        return tell(NONE);
    }

    public int isOpen(int f, int set) {
        if (isNoFollower(f) || set < 0 || set >= 1 << world.followers[f].pairs()) {
            return tell(BEYOND);
        }
        findPrices(f);
        return isLive(market.plans[f], world.followers[f].pairs(), set) ? 1 : 0;
    }

    public long price(int f, int row, int part) {
        if (isNoRow(f, row) || isNoPart(part)) {
            return tellLong(BEYOND);
        }
        findPrices(f);
        prices.tellProof(row, told);
        return told.side(part);
    }

    public int weigh(int sheet, int f) {
        if (isNoSheet(sheet) || isNoFollower(f)) {
            return tell(BEYOND);
        }
        Row row = sheets[sheet];
        if (row == null) {
            return tell(MISSING);
        }
        Follower who = world.followers[f];
        if (!row.tellsPrices(who.rows)) {
            return 1;
        }
        int scarce = tooLittleFor(row, who);
        if (scarce >= 0) {
            return 10 + scarce;
        }
        return isAboveNet(row, f) ? 2 : 0;
    }

    // ---- breaks, pieces, the best of all

    public int breaks(int f) {
        if (f != -1 && isNoFollower(f)) {
            return tell(BEYOND);
        }
        market.gatherBreaks(f, world.most);
        return market.turns.number;
    }

    public long breakAt(int f, int k, int part) {
        if (f != -1 && isNoFollower(f) || isNoPart(part)) {
            return tellLong(BEYOND);
        }
        market.gatherBreaks(f, world.most);
        if (k < 0 || k >= market.turns.number) {
            return tellLong(BEYOND);
        }
        return part == 0 ? market.turns.above[k] : market.turns.below[k];
    }

    public long piece(int k, int what) {
        market.gatherBreaks(-1, world.most);
        if (k < 0 || k > market.turns.number || what < 0 || what >= PIECE_NUMBERS) {
            return tellLong(BEYOND);
        }
        market.tellPiece(k, onePiece, 0);
        return onePiece[what];
    }

    public long best(int what) {
        if (what < 0 || what > 4) {
            return tellLong(BEYOND);
        }
        market.seekBest(world.most);
        return market.tellBest(what);
    }

    public long asKind(int kind, int what) {
        if (kind < 0 || kind >= KINDS || what < 0 || what > 4) {
            return tellLong(BEYOND);
        }
        for (int f = 0; f < world.number; f++) {
            oldKinds[f] = world.followers[f].kind;
            world.followers[f].kind = kind;
        }
        market.seekBest(world.most);
        for (int f = 0; f < world.number; f++) {
            world.followers[f].kind = oldKinds[f];
        }
        return market.tellBest(what);
    }

    public int settle() {
        market.seekBest(world.most);
        world.term.take(market.where);
        return market.how;
    }

    // ---- what is best

    public int kindFor(int f) {
        if (isNoFollower(f)) {
            return tell(BEYOND);
        }
        Follower who = world.followers[f];
        int was = who.kind;
        int chosen = -1;
        for (int kind = 0; kind < KINDS; kind++) {
            who.kind = kind;
            market.seekBest(world.most);
            if (chosen < 0 || isGreater()) {
                chosen = kind;
                greatest.take(market.top);
            }
        }
        who.kind = was;
        return chosen;
    }

    public int tollFor(int f, int good) {
        if (isNoGood(f, good)) {
            return tell(BEYOND);
        }
        Follower who = world.followers[f];
        int place = TOLL * GOODS + good;
        int was = who.traits[place];
        int chosen = -1;
        for (int toll = LEAST_TRAIT[TOLL]; toll <= GREATEST_TRAIT[TOLL]; toll++) {
            who.traits[place] = toll;
            market.plans[f].sumUp();
            market.seekBest(world.most);
            if (chosen < 0 || isGreater()) {
                chosen = toll;
                greatest.take(market.top);
            }
        }
        who.traits[place] = was;
        market.plans[f].sumUp();
        return chosen;
    }

    public int without(int f) {
        if (isNoFollower(f)) {
            return tell(BEYOND);
        }
        Follower who = world.followers[f];
        market.seekBest(world.most);
        greatest.take(market.top);
        spare.becomeLike(who);
        int chosen = -1;
        for (int row = 1; row < spare.rows; row++) {
            who.dropRow(row);
            market.plans[f].findAll();
            market.seekBest(world.most);
            if (isGreater()) {
                chosen = row;
                greatest.take(market.top);
            }
            who.becomeLike(spare);
        }
        market.plans[f].findAll();
        return chosen;
    }

    public int mostFor(int v) {
        if (v < -9999 || v > 9999) {
            return tell(BEYOND);
        }
        // A greater MOST takes no term away, so that halving finds the least one.
        int least = 1;
        int enough = GREATEST_MOST + 1;
        for (int step = 0; step < GREATEST_MOST && least < enough; step++) {
            int middle = (least + enough) / 2;
            market.seekBest(middle);
            if (market.top.above >= v * market.top.below) {
                enough = middle;
            } else {
                least = middle + 1;
            }
        }
        return enough > GREATEST_MOST ? tell(NONE) : enough;
    }

    // ---- rounds

    public int round() {
        if (world.rounds >= GREATEST_ROUND) {
            return tell(STATE);
        }
        int cut = market.cutTotal();
        return world.enter(cut) ? cut : tell(OVER);
    }

    public int loose(int n) {
        if (n < 1 || n > 20) {
            return tell(BEYOND);
        }
        if (world.rounds + n > GREATEST_ROUND) {
            return tell(STATE);
        }
        told.take(world.term);
        long ledger = world.ledger;
        int rounds = world.rounds;
        int z = world.z;
        int cut = 0;
        for (int i = 0; i < n; i++) {
            world.drawTerm();
            cut = market.cutTotal();
            if (!world.enter(cut)) {
                world.term.take(told);
                world.ledger = ledger;
                world.rounds = rounds;
                world.z = z;
                return tell(OVER);
            }
        }
        return cut;
    }

    public long book(int what, long v) {
        if (what < 0 || what > 2) {
            return tellLong(BEYOND);
        }
        if (what == 2 && v == 0) {
            return tellLong(NONE);
        }
        long was = world.ledger;
        boolean isOver = what == 0 ? isSumOver(was, v)
            : what == 1 ? isProductOver(was, v)
            : was == LEAST_LONG && v == -1;
        if (isOver) {
            return tellLong(OVER);
        }
        if (what == 0) {
            world.ledger = was + v;
        } else if (what == 1) {
            world.ledger = was * v;
        } else if (v != 0) {
            world.ledger = was / v;
        }
        return world.ledger;
    }

    public int seed(int v) {
        int was = world.z;
        world.z = v;
        return was;
    }

    public int fits(int sheet, int f, int what) {
        if (isNoSheet(sheet) || isNoFollower(f) || what < 0 || what > 1) {
            return tell(BEYOND);
        }
        Row row = sheets[sheet];
        if (row == null) {
            return tell(MISSING);
        }
        Follower who = world.followers[f];
        int was = who.kind;
        int set = 0;
        for (int kind = 0; kind < KINDS; kind++) {
            who.kind = kind;
            if (answersAs(market.plans[f], row)) {
                set |= 1 << kind;
            }
        }
        who.kind = was;
        return what == 0 ? set : Integer.bitCount(set);
    }

    // ---- rows of pieces

    public int prove() {
        market.gatherBreaks(-1, world.most);
        pieceCount = market.turns.number + 1;
        for (int k = 0; k < pieceCount; k++) {
            market.tellPiece(k, pieceRows, k * PIECE_NUMBERS);
        }
        return pieceCount;
    }

    public long row(int k, int what) {
        if (isNoPieceNumber(k, what)) {
            return tellLong(BEYOND);
        }
        return pieceRows[k * PIECE_NUMBERS + what];
    }

    public long alter(int k, int what, long v) {
        if (isNoPieceNumber(k, what)) {
            return tellLong(BEYOND);
        }
        long was = pieceRows[k * PIECE_NUMBERS + what];
        pieceRows[k * PIECE_NUMBERS + what] = v;
        return was;
    }

    public int judge() {
        market.gatherBreaks(-1, world.most);
        int pieces = market.turns.number + 1;
        int both = Math.min(pieces, pieceCount);
        for (int k = 0; k < both; k++) {
            market.tellPiece(k, onePiece, 0);
            for (int what = 0; what < PIECE_NUMBERS; what++) {
                if (onePiece[what] != pieceRows[k * PIECE_NUMBERS + what]) {
                    return 1 + k;
                }
            }
        }
        return pieces == pieceCount ? 0 : 1 + both;
    }

    // ---- sheets, spots

    public int sheet(int s, int sort, int n) {
        if (isNoSheet(s) || sort < -1 || sort > 2) {
            return tell(BEYOND);
        }
        if (sort == -1) {
            sheets[s] = null;
            return 0;
        }
        if (n < 0) {
            return tell(SIZE);
        }
        if (n > LONGEST_SHEET) {
            return tell(BEYOND);
        }
        sheets[s] = new Row(sort, n);
        return n;
    }

    public int write(int s, int i, long v) {
        if (isNoSheet(s)) {
            return tell(BEYOND);
        }
        Row row = sheets[s];
        if (row == null) {
            return tell(MISSING);
        }
        if (row.lacks(i)) {
            return tell(BEYOND);
        }
        row.put(i, v);
        return 1;
    }

    public long item(int s, int i) {
        if (isNoSheet(s)) {
            return tellLong(BEYOND);
        }
        Row row = sheets[s];
        if (row == null) {
            return tellLong(MISSING);
        }
        if (row.lacks(i)) {
            return tellLong(BEYOND);
        }
        return row.numbers[i];
    }

    public int copy(int s, int i, int t, int j, int n) {
        if (isNoSheet(s) || isNoSheet(t)) {
            return tell(BEYOND);
        }
        Row from = sheets[s];
        Row to = sheets[t];
        if (from == null || to == null) {
            return tell(MISSING);
        }
        if (from.sort != to.sort) {
            return tell(OTHER_KIND);
        }
        if (i < 0 || j < 0 || n < 0 || n > from.numbers.length - i || n > to.numbers.length - j) {
            return tell(BEYOND);
        }
        System.arraycopy(from.numbers, i, to.numbers, j, n);
        return n;
    }

    public int hold(int spot, int what, int n) {
        boolean isNoSuch = what == 0 && isNoFollower(n) || what == 2 && isNoSheet(n);
        if (isNoSpot(spot) || what < 0 || what > 3 || isNoSuch) {
            return tell(BEYOND);
        }
        Spot place = spots[spot];
        if (what == 0) {
            place.keep(Spot.WHO, n, null);
        } else if (what == 1) {
            place.keep(Spot.TERM, (int) world.term.cut(), null);
        } else if (what == 2 && sheets[n] != null) {
            place.keep(Spot.ROW, 0, sheets[n]);
        } else {
            place.keep(Spot.NOTHING, 0, null);
        }
        return 1;
    }

    public int taken(int spot, int as) {
        if (isNoSpot(spot) || as < 0 || as > 10) {
            return tell(BEYOND);
        }
        Spot place = spots[spot];
        if (!place.holdsNow(world)) {
            return tell(MISSING);
        }
        if (as < AS_TERM && place.sort == Spot.WHO && world.followers[place.number].isOfKind(as)) {
            return place.number;
        }
        if (as == AS_TERM && place.sort == Spot.TERM) {
            return place.number;
        }
        Row row = place.row;
        if (row != null && row.sort == as - AS_ROW) {
            return row.numbers.length;
        }
        return tell(OTHER_KIND);
    }

    // ---- images

    public int image() {
        kept.takeAll(world);
        isKept = true;
        return 1;
    }

    public int back() {
        if (!isKept) {
            return tell(NONE);
        }
        world.takeAll(kept);
        for (int f = 0; f < world.number; f++) {
            market.plans[f].findAll();
        }
        return world.number;
    }

    public int count(int what) {
        switch (what) {
            case 0: return world.number;
            case 1: return world.most;
            case 2: return world.rounds;
            case 3: return world.z;
            case 4: return pieceCount;
            case 5: return fullSpots();
            case 6:
                market.gatherBreaks(-1, world.most);
                return market.turns.number + 1;
            case 7:
                return world.ledger == (int) world.ledger ? (int) world.ledger : tell(OVER);
            default: return tell(BEYOND);
        }
    }

    public int status(int which) {
        if (which < -1 || which > OVER) {
            return tell(BEYOND);
        }
        if (which >= 0) {
            return findings[which];
        }
        int sum = 0;
        for (int number : findings) {
            sum += number;
        }
        return sum;
    }

    // ---- findings

    private int tell(int finding) {
        findings[finding]++;
        return LOW - finding;
    }

    private long tellLong(int finding) {
        findings[finding]++;
        return LONG_LOW - finding;
    }

    private boolean isNoKind(int km) {
        return km < 0 || km >= 10 * KINDS;
    }

    private boolean isNoFollower(int f) {
        return f < 0 || f >= world.number;
    }

    private boolean isNoGood(int f, int good) {
        return isNoFollower(f) || good < 0 || good >= world.followers[f].goods;
    }

    private boolean isNoTrait(int f, int good, int what) {
        return isNoGood(f, good) || what < WORTH || what > SIDE;
    }

    private boolean isNoRow(int f, int row) {
        return isNoFollower(f) || row < 0 || row >= world.followers[f].rows;
    }

    private boolean isNoPlan(int f, int plan) {
        return isNoFollower(f) || plan < 0 || plan >= market.plans[f].number;
    }

    private boolean isNoBound(int bound) {
        return bound < 0 || bound > GREATEST_BOUND;
    }

    private boolean isNoPart(int part) {
        return part < 0 || part > 1;
    }

    private boolean isNoSheet(int s) {
        return s < 0 || s >= SHEETS;
    }

    private boolean isNoSpot(int spot) {
        return spot < 0 || spot >= SPOTS;
    }

    private boolean isNoPieceNumber(int k, int what) {
        return k < 0 || k >= pieceCount || what < 0 || what >= PIECE_NUMBERS;
    }

    // ---- parts of the acts

    private void findPrices(int f) {
        prices.findAll(world.followers[f], world.term);
    }

    // Each side of the amounts, and of the prices, has a corner: it is enough to look at those.
    private boolean isLive(Plans plans, int depth, int in) {
        int out = (1 << depth) - 1 & ~in;
        return isWithinOneOf(plans.tight, plans.number, in) && isWithinOneOf(prices.tight, prices.number, out);
    }

    private int liveNodes(Plans plans, int depth) {
        int sum = 0;
        for (int in = 0; in < 1 << depth; in++) {
            if (isLive(plans, depth, in)) {
                sum++;
            }
        }
        return sum;
    }

    /** The first good for which the prices that the row tells are too little; -1: none. */
    private int tooLittleFor(Row row, Follower who) {
        long feels = who.feels(world.term.above, world.term.below);
        for (int g = 0; g < who.goods; g++) {
            long sum = 0;
            for (int r = 0; r < who.rows; r++) {
                sum += row.numbers[r + 1] * who.numbers[r * GOODS + g];
            }
            if (sum * world.term.below < who.leftAbove(g, feels, world.term.below) * row.numbers[0]) {
                return g;
            }
        }
        return -1;
    }

    private boolean isAboveNet(Row row, int f) {
        Follower who = world.followers[f];
        long sum = 0;
        for (int r = 0; r < who.rows; r++) {
            sum += row.numbers[r + 1] * who.bounds[r];
        }
        int k = market.answerOf(f);
        if (k < 0) {
            return false;
        }
        Plans plans = market.plans[f];
        long below = plans.below[k] * world.term.below;
        return Fraction.order(sum, row.numbers[0], plans.net[k], below) > 0;
    }

    private boolean answersAs(Plans plans, Row row) {
        for (int x = 0; x < row.numbers.length; x++) {
            if (row.numbers[x] != ANY) {
                plans.stand(x, 1);
                if (plans.cutGain(plans.choose(AT)) != row.numbers[x]) {
                    return false;
                }
            }
        }
        return true;
    }

    private boolean isGreater() {
        return market.top.orderTo(greatest) > 0;
    }

    private int fullSpots() {
        int sum = 0;
        for (int i = 0; i < SPOTS; i++) {
            if (spots[i].holdsNow(world)) {
                sum++;
            }
        }
        return sum;
    }

    private static boolean isSumOver(long a, long b) {
        long sum = a + b;
        return ((a ^ sum) & (b ^ sum)) < 0;
    }

    private static boolean isProductOver(long a, long b) {
        if (a == 0 || b == 0) {
            return false;
        }
        // Here alone the quotient wraps around with the product, and would hide it.
        if (a == LEAST_LONG && b == -1) {
            return true;
        }
        return a * b / b != a;
    }

    // A corner is the only one that is tight where it is: two with the same set are one.
    private static boolean isOneOf(int[] sets, int number, int set) {
        for (int k = 0; k < number && k < sets.length; k++) {
            if (sets[k] == set) {
                return true;
            }
        }
        return false;
    }

    private static boolean isWithinOneOf(int[] sets, int number, int set) {
        for (int k = 0; k < number && k < sets.length; k++) {
            if ((set & ~sets[k]) == 0) {
                return true;
            }
        }
        return false;
    }

    /** A fraction that is written over again and again, so that calls make no objects. */
    private static final class Fraction {
        long above;
        long below = 1;

        void put(long a, long b) {
            long divisor = commonDivisor(a, b);
            if (divisor > 0) {
                above = a / divisor;
                below = b / divisor;
            }
        }

        void take(Fraction other) {
            above = other.above;
            below = other.below;
        }

        long side(int part) {
            return part == 0 ? above : below;
        }

        long cut() {
            return below > 0 ? above / below : 0;
        }

        int orderTo(Fraction other) {
            return order(above, below, other.above, other.below);
        }

        private static long commonDivisor(long a, long b) {
            long x = a < 0 ? -a : a;
            long y = b;
            for (int i = 0; i < 100 && y != 0; i++) {
                long rest = x % y;
                x = y;
                y = rest;
            }
            return x;
        }

        /** a by b against c by d, quotient by quotient: the products may be no longs. */
        static int order(long a, long b, long c, long d) {
            long p = a;
            long q = b;
            long r = c;
            long s = d;
            int sign = 1;
            for (int i = 0; i < 100 && q > 0 && s > 0; i++) {
                long one = Math.floorDiv(p, q);
                long two = Math.floorDiv(r, s);
                if (one != two) {
                    return one > two ? sign : -sign;
                }
                long oneRest = p - one * q;
                long twoRest = r - two * s;
                if (oneRest == 0 || twoRest == 0) {
                    return Long.compare(oneRest, twoRest) * sign;
                }
                // What is left is turned over, which turns the order, too.
                p = q;
                q = oneRest;
                r = s;
                s = twoRest;
                sign = -sign;
            }
            return 0;
        }
    }

    /** What a follower is told to be; its plans are found elsewhere. */
    private static final class Follower {
        int kind;
        int m;
        int goods;
        int rows;
        final int[] traits = new int[3 * GOODS];
        final int[] numbers = new int[ROWS * GOODS];
        final int[] bounds = new int[ROWS];

        void begin(int km, int howMany) {
            setKind(km);
            goods = howMany;
            rows = 1;
            for (int i = 0; i < traits.length; i++) {
                traits[i] = FIRST_TRAIT[i / GOODS];
            }
            fillRow(0, 0, 3, 1, 10);
        }

        void setKind(int km) {
            kind = km / 10;
            m = km % 10;
        }

        void fillRow(int row, int code, int base, int least, int bound) {
            int rest = code;
            for (int g = GOODS - 1; g >= 0 && base > 0; g--) {
                numbers[row * GOODS + g] = rest % base + least;
                rest = rest / base;
            }
            bounds[row] = bound;
        }

        void dropRow(int row) {
            for (int r = row; r < rows - 1; r++) {
                System.arraycopy(numbers, (r + 1) * GOODS, numbers, r * GOODS, GOODS);
                bounds[r] = bounds[r + 1];
            }
            rows--;
        }

        void becomeLike(Follower other) {
            kind = other.kind;
            m = other.m;
            goods = other.goods;
            rows = other.rows;
            System.arraycopy(other.traits, 0, traits, 0, traits.length);
            System.arraycopy(other.numbers, 0, numbers, 0, numbers.length);
            System.arraycopy(other.bounds, 0, bounds, 0, bounds.length);
        }

        int pairs() {
            return rows + goods;
        }

        boolean isOfKind(int asked) {
            int one = kind;
            for (int depth = 0; depth < KINDS && one >= 0; depth++) {
                if (one == asked) {
                    return true;
                }
                one = KIND_ABOVE[one];
            }
            return false;
        }

        int times() {
            return kind == SHARP || kind == GRIM ? 2 : 1;
        }

        int extra() {
            return kind == DULL || kind == GRIM ? m : 0;
        }

        /** What it feels, above the line: below it is as the term's. */
        long feels(long above, long below) {
            return times() * above + extra() * below;
        }

        /** What a good leaves it, above the line: below it is as the term's. */
        long leftAbove(int good, long feels, long below) {
            return traits[WORTH * GOODS + good] * below - feels * traits[TOLL * GOODS + good];
        }
    }

    /** Three equations with three unknowns; those of goods that are not there say that they are 0. */
    private static final class Square {
        final long[] cells = new long[GOODS * GOODS];
        final long[] right = new long[GOODS];
        final long[] found = new long[GOODS];
        long below;

        /** Finds the amounts that are tight in all pairs of a set, if they are the only ones. */
        boolean solveAmounts(Follower who, int set) {
            clear(who.goods);
            int line = 0;
            for (int pair = 0; pair < who.pairs() && line < who.goods; pair++) {
                if ((set >> pair & 1) != 0) {
                    for (int g = 0; g < who.goods; g++) {
                        cells[line * GOODS + g] = cellOf(who, pair, g);
                    }
                    right[line] = pair < who.rows ? who.bounds[pair] : 0;
                    line++;
                }
            }
            return solve();
        }

        /** Finds what each pair of a set must weigh so that they make up what each good leaves. */
        boolean solveWeights(Follower who, int set, Fraction term) {
            clear(who.goods);
            long feels = who.feels(term.above, term.below);
            int line = 0;
            for (int pair = 0; pair < who.pairs() && line < who.goods; pair++) {
                if ((set >> pair & 1) != 0) {
                    for (int g = 0; g < who.goods; g++) {
                        cells[g * GOODS + line] = cellOf(who, pair, g);
                    }
                    line++;
                }
            }
            for (int g = 0; g < who.goods; g++) {
                right[g] = who.leftAbove(g, feels, term.below);
            }
            return solve();
        }

        private void clear(int goods) {
            for (int i = 0; i < GOODS; i++) {
                right[i] = 0;
                for (int j = 0; j < GOODS; j++) {
                    cells[i * GOODS + j] = i == j && i >= goods ? 1 : 0;
                }
            }
        }

        private static long cellOf(Follower who, int pair, int good) {
            if (pair < who.rows) {
                return who.numbers[pair * GOODS + good];
            }
            return pair - who.rows == good ? 1 : 0;
        }

        private boolean solve() {
            below = measure();
            if (below == 0) {
                return false;
            }
            long sign = below < 0 ? -1 : 1;
            for (int column = 0; column < GOODS; column++) {
                turnColumn(column);
                found[column] = measure() * sign;
                turnColumn(column);
            }
            below = below * sign;
            return true;
        }

        private void turnColumn(int column) {
            for (int i = 0; i < GOODS; i++) {
                long old = cells[i * GOODS + column];
                cells[i * GOODS + column] = right[i];
                right[i] = old;
            }
        }

        private long measure() {
            return cells[0] * (cells[4] * cells[8] - cells[5] * cells[7])
                + cells[1] * (cells[5] * cells[6] - cells[3] * cells[8])
                + cells[2] * (cells[3] * cells[7] - cells[4] * cells[6]);
        }
    }

    /** The plans of one follower, in their order, and how they stand at a term. */
    private static final class Plans {
        final Follower who;
        final Square square;
        int number;
        final long[] amounts = new long[PLANS * GOODS];
        final long[] below = new long[PLANS];
        final int[] tight = new int[PLANS];
        final long[] worth = new long[PLANS];
        final long[] toll = new long[PLANS];
        final long[] side = new long[PLANS];
        final long[] net = new long[PLANS];
        final long[] gain = new long[PLANS];
        private long termBelow = 1;
        int bestSet;

        Plans(Follower who, Square square) {
            this.who = who;
            this.square = square;
        }

        void findAll() {
            number = 0;
            int sets = 1 << who.pairs();
            for (int set = 0; set < sets; set++) {
                if (Integer.bitCount(set) == who.goods && square.solveAmounts(who, set)) {
                    int tightSet = tightPairs();
                    if (tightSet >= 0 && !isOneOf(tight, number, tightSet)) {
                        insert(tightSet);
                    }
                }
            }
            sumUp();
        }

        /** The pairs in which the square's amounts are tight; -1 if it may not choose them. */
        private int tightPairs() {
            int set = 0;
            for (int r = 0; r < who.rows; r++) {
                long sum = 0;
                for (int g = 0; g < who.goods; g++) {
                    sum += who.numbers[r * GOODS + g] * square.found[g];
                }
                long bound = who.bounds[r] * square.below;
                if (sum > bound) {
                    return -1;
                }
                set |= sum == bound ? 1 << r : 0;
            }
            for (int g = 0; g < who.goods; g++) {
                if (square.found[g] < 0) {
                    return -1;
                }
                set |= square.found[g] == 0 ? 1 << who.rows + g : 0;
            }
            return set;
        }

        private void insert(int tightSet) {
            if (number >= PLANS) {
                return;
            }
            int place = number;
            for (; place > 0 && isBehind(place - 1); place--) {
                System.arraycopy(amounts, (place - 1) * GOODS, amounts, place * GOODS, GOODS);
                below[place] = below[place - 1];
                tight[place] = tight[place - 1];
            }
            System.arraycopy(square.found, 0, amounts, place * GOODS, GOODS);
            below[place] = square.below;
            tight[place] = tightSet;
            number++;
        }

        private boolean isBehind(int k) {
            for (int g = 0; g < who.goods; g++) {
                long one = amounts[k * GOODS + g] * square.below;
                long two = square.found[g] * below[k];
                if (one != two) {
                    return one > two;
                }
            }
            return false;
        }

        void sumUp() {
            for (int k = 0; k < number; k++) {
                worth[k] = sumOf(k, WORTH);
                toll[k] = sumOf(k, TOLL);
                side[k] = sumOf(k, SIDE);
            }
        }

        private long sumOf(int k, int trait) {
            long sum = 0;
            for (int g = 0; g < who.goods; g++) {
                sum += amounts[k * GOODS + g] * who.traits[trait * GOODS + g];
            }
            return sum;
        }

        /** Finds net and gain of all plans, above the line: below it is a plan's times the term's. */
        void stand(long above, long under) {
            termBelow = under;
            bestSet = 0;
            long feels = who.feels(above, under);
            int top = 0;
            for (int k = 0; k < number; k++) {
                net[k] = worth[k] * under - feels * toll[k];
                gain[k] = toll[k] * above + side[k] * under;
                int order = k == 0 ? 1 : Long.compare(net[k] * below[top], net[top] * below[k]);
                if (order > 0) {
                    top = k;
                    bestSet = 0;
                }
                if (order >= 0) {
                    bestSet |= 1 << k;
                }
            }
        }

        long cutGain(int k) {
            if (k < 0 || k >= number || below[k] * termBelow == 0) {
                return 0;
            }
            return gain[k] / (below[k] * termBelow);
        }

        /** The answer's number where it stands, or close by; -1 if there is no plan. */
        int choose(int how) {
            int chosen = -1;
            for (int k = 0; k < number; k++) {
                if ((bestSet >> k & 1) != 0 && (chosen < 0 || isChosenOver(k, chosen, how))) {
                    chosen = k;
                }
            }
            return chosen;
        }

        // Of plans that are best at a term, those with more toll are best below it, those with less above it.
        private boolean isChosenOver(int k, int old, int how) {
            int more = Long.compare(toll[k] * below[old], toll[old] * below[k]);
            if (how == FROM_BELOW && more != 0) {
                return more > 0;
            }
            if (how == FROM_ABOVE && more != 0) {
                return more < 0;
            }
            if (who.kind == LATE) {
                return true;
            }
            if (who.kind == PLAIN || who.kind == DULL) {
                return false;
            }
            int richer = Long.compare(gain[k] * below[old], gain[old] * below[k]);
            return who.kind == FOLLOWER ? richer > 0 : richer < 0;
        }

        void addBreaks(int most, Breaks to) {
            stand(0, 1);
            int at = choose(FROM_ABOVE);
            for (int step = 0; step < PLANS && at >= 0; step++) {
                int next = nextTurn(at);
                if (next < 0) {
                    return;
                }
                long turnBelow = tollLess(at, next);
                long above = worthLess(at, next) - who.extra() * turnBelow;
                long under = who.times() * turnBelow;
                if (above >= most * under) {
                    return;
                }
                to.insert(above, under);
                at = next;
            }
        }

        /** The plan to which it turns first as the term grows, of several that with the least toll; -1: none. */
        private int nextTurn(int at) {
            int next = -1;
            for (int k = 0; k < number; k++) {
                if (tollLess(at, k) > 0 && (next < 0 || turnsAhead(at, k, next))) {
                    next = k;
                }
            }
            return next;
        }

        private boolean turnsAhead(int at, int k, int old) {
            long one = worthLess(at, k) * tollLess(at, old);
            long two = worthLess(at, old) * tollLess(at, k);
            return one != two ? one < two : tollLess(old, k) > 0;
        }

        private long worthLess(int from, int k) {
            return worth[from] * below[k] - worth[k] * below[from];
        }

        private long tollLess(int from, int k) {
            return toll[from] * below[k] - toll[k] * below[from];
        }
    }

    /** The corners of the prices of one follower at a term, and which of them are proofs. */
    private static final class Prices {
        final Square square;
        int number;
        int proofs;
        private int proof;
        private long termBelow = 1;
        private final long[] price = new long[PRICE_CORNERS * ROWS];
        private final long[] below = new long[PRICE_CORNERS];
        final int[] tight = new int[PRICE_CORNERS];
        private final long[] cost = new long[PRICE_CORNERS];

        Prices(Square square) {
            this.square = square;
        }

        void findAll(Follower who, Fraction term) {
            number = 0;
            termBelow = term.below;
            int sets = 1 << who.pairs();
            for (int set = 0; set < sets; set++) {
                if (Integer.bitCount(set) == who.goods && square.solveWeights(who, set, term)) {
                    int tightSet = tightPairs(who, set);
                    if (tightSet >= 0 && !isOneOf(tight, number, tightSet)) {
                        insert(who, set, tightSet);
                    }
                }
            }
            findProofs();
        }

        /** The pairs in which the square's weights are tight as prices; -1 if they are no prices. */
        private int tightPairs(Follower who, int set) {
            int tightSet = (1 << who.pairs()) - 1 & ~set;
            int line = 0;
            for (int pair = 0; pair < who.pairs() && line < GOODS; pair++) {
                if ((set >> pair & 1) != 0) {
                    long weight = square.found[line];
                    // A good's weight is what the prices lack for it.
                    if (pair < who.rows ? weight < 0 : weight > 0) {
                        return -1;
                    }
                    tightSet |= weight == 0 ? 1 << pair : 0;
                    line++;
                }
            }
            return tightSet;
        }

        private void insert(Follower who, int set, int tightSet) {
            if (number >= PRICE_CORNERS) {
                return;
            }
            int line = 0;
            cost[number] = 0;
            for (int r = 0; r < ROWS; r++) {
                long one = 0;
                if (r < who.rows && (set >> r & 1) != 0 && line < GOODS) {
                    one = square.found[line];
                    line++;
                }
                price[number * ROWS + r] = one;
                cost[number] += one * who.bounds[r];
            }
            below[number] = square.below;
            tight[number] = tightSet;
            number++;
        }

        private void findProofs() {
            proofs = 0;
            proof = 0;
            for (int k = 0; k < number; k++) {
                int order = Long.compare(cost[k] * below[proof], cost[proof] * below[k]);
                if (order < 0) {
                    proofs = 0;
                }
                if (order < 0 || order == 0 && isAhead(k, proof)) {
                    proof = k;
                }
                if (order <= 0) {
                    proofs++;
                }
            }
        }

        private boolean isAhead(int k, int old) {
            for (int r = 0; r < ROWS; r++) {
                long one = price[k * ROWS + r] * below[old];
                long two = price[old * ROWS + r] * below[k];
                if (one != two) {
                    return one < two;
                }
            }
            return false;
        }

        void tellProof(int row, Fraction to) {
            to.put(price[proof * ROWS + row], below[proof] * termBelow);
        }
    }

    /** Terms, the least first, each once, in lowest terms. */
    private static final class Breaks {
        int number;
        final long[] above = new long[BREAKS];
        final long[] below = new long[BREAKS];
        private final Fraction one = new Fraction();

        void insert(long a, long b) {
            one.put(a, b);
            int place = 0;
            while (place < number && above[place] * one.below < one.above * below[place]) {
                place++;
            }
            boolean isThere = place < number && above[place] == one.above && below[place] == one.below;
            if (isThere || number >= BREAKS) {
                return;
            }
            for (int i = number; i > place; i--) {
                above[i] = above[i - 1];
                below[i] = below[i - 1];
            }
            above[place] = one.above;
            below[place] = one.below;
            number++;
        }
    }

    /** All that an image keeps. */
    private static final class World {
        int number;
        int most = 20;
        int rounds;
        int z = 1;
        long ledger;
        final Fraction term = new Fraction();
        final Follower[] followers = new Follower[FOLLOWERS];

        World() {
            for (int f = 0; f < FOLLOWERS; f++) {
                followers[f] = new Follower();
            }
        }

        void takeAll(World other) {
            number = other.number;
            most = other.most;
            rounds = other.rounds;
            z = other.z;
            ledger = other.ledger;
            term.take(other.term);
            for (int f = 0; f < number; f++) {
                followers[f].becomeLike(other.followers[f]);
            }
        }

        void drawTerm() {
            z = z * 1103515245 + 12345;
            if (most > 0) {
                term.put((z >>> 8) % (most + 1), 1);
            }
        }

        /** One round that brings so much; false, and nothing is changed, if the ledger can't hold it. */
        boolean enter(int brought) {
            if (isSumOver(ledger, brought)) {
                return false;
            }
            ledger += brought;
            rounds++;
            return true;
        }
    }

    /** What the answers of all followers bring together, and where it turns. */
    private static final class Market {
        final World world;
        final Plans[] plans = new Plans[FOLLOWERS];
        final Breaks turns = new Breaks();
        final Fraction top = new Fraction();
        final Fraction where = new Fraction();
        int how;
        private final Fraction sum = new Fraction();
        private long termBelow = 1;

        Market(World world, Square square) {
            this.world = world;
            for (int f = 0; f < FOLLOWERS; f++) {
                plans[f] = new Plans(world.followers[f], square);
            }
        }

        int answerOf(int f) {
            plans[f].stand(world.term.above, world.term.below);
            return plans[f].choose(AT);
        }

        int bestPlansOf(int f) {
            plans[f].stand(world.term.above, world.term.below);
            return plans[f].bestSet;
        }

        void standAll(long above, long below) {
            termBelow = below;
            for (int f = 0; f < world.number; f++) {
                plans[f].stand(above, below);
            }
        }

        /** Gains or tolls of all answers together, where all stand or close by. */
        void addUp(boolean isOfGains, int way, Fraction to) {
            long above = 0;
            long below = 1;
            for (int f = 0; f < world.number; f++) {
                int k = plans[f].choose(way);
                if (k >= 0) {
                    long one = isOfGains ? plans[f].gain[k] : plans[f].toll[k];
                    above = above * plans[f].below[k] + one * below;
                    below = below * plans[f].below[k];
                }
            }
            to.put(above, isOfGains ? below * termBelow : below);
        }

        int cutTotal() {
            standAll(world.term.above, world.term.below);
            addUp(true, AT, sum);
            return (int) sum.cut();
        }

        /** The breaks of one follower (-1: of all), for terms below most. */
        void gatherBreaks(int f, int most) {
            turns.number = 0;
            for (int i = 0; i < world.number; i++) {
                if (f == -1 || f == i) {
                    plans[i].addBreaks(most, turns);
                }
            }
        }

        /** Puts the six numbers of a piece; the breaks of all must have been gathered. */
        void tellPiece(int k, long[] to, int from) {
            if (k < 0 || k > turns.number || from < 0 || from + PIECE_NUMBERS > to.length) {
                return;
            }
            if (k == 0) {
                standAll(0, 1);
            } else {
                standAll(turns.above[k - 1], turns.below[k - 1]);
            }
            addUp(false, FROM_ABOVE, sum);
            putSum(to, from);
            addUp(true, FROM_ABOVE, sum);
            putSum(to, from + 2);
            if (k == turns.number) {
                standAll(world.most, 1);
            } else {
                standAll(turns.above[k], turns.below[k]);
            }
            addUp(true, FROM_BELOW, sum);
            putSum(to, from + 4);
        }

        private void putSum(long[] to, int from) {
            to[from] = sum.above;
            to[from + 1] = sum.below;
        }

        // Within a piece the total never falls, and where it is level its left end is as good.
        void seekBest(int most) {
            gatherBreaks(-1, most);
            how = -1;
            offerTerm(0, 1, most);
            for (int i = 0; i < turns.number; i++) {
                offerTerm(turns.above[i], turns.below[i], most);
            }
            offerTerm(most, 1, most);
        }

        private void offerTerm(long above, long below, int most) {
            standAll(above, below);
            for (int way = AT; way <= FROM_ABOVE; way++) {
                if (way == FROM_BELOW && above == 0 || way == FROM_ABOVE && above >= most * below) {
                    continue;
                }
                addUp(true, way, sum);
                if (how < 0 || sum.orderTo(top) > 0) {
                    top.take(sum);
                    where.put(above, below);
                    how = way;
                }
            }
        }

        long tellBest(int what) {
            if (what < 2) {
                return top.side(what);
            }
            return what < 4 ? where.side(what - 2) : how;
        }
    }

    /** The row of a sheet: its numbers are cut to their sort as they come. */
    private static final class Row {
        final int sort;
        final long[] numbers;

        Row(int sort, int length) {
            this.sort = sort;
            numbers = new long[Math.max(length, 0)];
        }

        boolean lacks(int i) {
            return i < 0 || i >= numbers.length;
        }

        void put(int i, long v) {
            numbers[i] = sort == 0 ? (byte) v : sort == 1 ? (int) v : v;
        }

        boolean tellsPrices(int rows) {
            if (numbers.length < rows + 1 || numbers[0] < 1 || numbers[0] > 1000000) {
                return false;
            }
            for (int r = 1; r <= rows; r++) {
                if (numbers[r] < 0 || numbers[r] > 1000000000) {
                    return false;
                }
            }
            return true;
        }
    }

    /** One thing that is held, or nothing. */
    private static final class Spot {
        static final int NOTHING = 0;
        static final int WHO = 1;
        static final int TERM = 2;
        static final int ROW = 3;

        int sort;
        int number;
        Row row;

        void keep(int newSort, int newNumber, Row newRow) {
            sort = newSort;
            number = newNumber;
            row = newRow;
        }

        boolean holdsNow(World world) {
            return sort == WHO ? number < world.number : sort != NOTHING;
        }
    }
}
