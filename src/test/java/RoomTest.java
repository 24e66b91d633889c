import java.lang.management.ManagementFactory;

/** Only a new object and a new sheet may take room: all calls of a run live in one. */
public final class RoomTest {
    private static final com.sun.management.ThreadMXBean ROOM =
        (com.sun.management.ThreadMXBean) ManagementFactory.getThreadMXBean();

    public static void main(String[] args) {
        LeaderTerms x = new LeaderTerms();
        for (int f = 0; f < 3; f++) {
            x.follower(10 * f + 35, 3);
            x.budget(f, f, 20);
            x.bind(f, 4 * 49 + 3 * 7 + 3, 10 - f);
            x.bind(f, 3 * 49 + 4 * 7 + 3, 9 + f);
            x.bind(f, 3 * 49 + 3 * 7 + 4, 8);
            x.good(f, 1, 0, 17 - f);
            x.good(f, 1, 1, 3);
            x.good(f, 2, 1, 2);
        }
        x.sheet(0, 2, 5);
        x.sheet(1, 2, 40);
        all(x);
        long before = ROOM.getCurrentThreadAllocatedBytes();
        long again = ROOM.getCurrentThreadAllocatedBytes();
        long sum = all(x);
        long after = ROOM.getCurrentThreadAllocatedBytes();
        long taken = after - again - (again - before);
        LeaderTerms y = new LeaderTerms();
        long made = ROOM.getCurrentThreadAllocatedBytes() - after;
        System.out.println("calls take " + taken + " bytes, a new object " + made + " (" + sum + y.count(0) + ")");
        if (taken > 1000 || made > 20000) {
            System.exit(1);
        }
    }

    private static long all(LeaderTerms x) {
        long sum = x.settle() + x.image() + x.back() + x.prove() + x.judge() + x.round() + x.seed(5);
        for (int f = 0; f < 3; f++) {
            sum += x.kindFor(f) + x.tollFor(f, 0) + x.without(f) + x.fits(1, f, 0) + x.weigh(0, f) + x.breaks(f);
            sum += x.opens(f, 0) + x.opens(f, 1) + x.opens(f, 2) + x.openAt(f, 3) + x.isOpen(f, 3) + x.price(f, 0, 0);
            sum += x.of(f, 5) + x.amount(f, 1, 0, 0) + x.brings(f, -1, 0, 0) + x.breakAt(f, 0, 0) + x.become(f, 10 * f);
            sum += x.budget(f, f, 20) + x.loosen(f, 3) + x.bind(f, 3 * 49 + 3 * 7 + 4, 8) + x.good(f, 0, 0, 9);
            sum += x.hold(f, f, 0) + x.taken(f, 7) + x.total(f, 0) + x.asKind(f, 0) + x.goodOf(f, 0, 0) + x.rowOf(f, 0, 0);
        }
        sum += x.mostFor(50) + x.loose(20) + x.book(0, 5) + x.best(0) + x.piece(0, 0) + x.row(0, 0) + x.alter(0, 0, 1);
        return sum + x.copy(0, 0, 1, 0, 5) + x.count(5) + x.status(-1) + x.item(0, 0) + x.write(0, 0, 1) + x.termOf(0);
    }
}
