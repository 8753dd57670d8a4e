import com.sun.management.ThreadMXBean;
import java.lang.management.ManagementFactory;

/** All calls live in one room: the constructor makes the rows, and no call makes anything more. */
public final class RoomTest {
    private static final Checks CHECKS = new Checks();
    private static final ThreadMXBean THREADS = (ThreadMXBean) ManagementFactory.getThreadMXBean();

    public static void main(String[] args) {
        for (int i = 0; i < 50; i++) {
            use(Offices.easy(10));
        }
        TermOffice office = Offices.easy(10);
        long before = made();
        long mark = use(office);
        long bytes = made() - before;
        CHECKS.holds("calls make nothing, but made " + bytes + " bytes", bytes < 4096);
        CHECKS.holds("something was done", mark != new TermOffice().fingerprint());

        before = made();
        TermOffice last = new TermOffice();
        bytes = made() - before;
        CHECKS.holds("an office is small, but has " + bytes + " bytes", bytes < 40000);
        CHECKS.due("and new", last.time(), 0);
        CHECKS.end();
    }

    private static long made() {
        return THREADS.getCurrentThreadAllocatedBytes();
    }

    /** Every method of the face, without anything made by the test itself. */
    private static long use(TermOffice x) {
        long sum = 0;
        for (int i = 0; i < 20; i++) {
            x.set(5, 1 + i % 10);
            sum += x.open();
            for (int m = 0; m < 10; m += 3) {
                x.nominate(m);
                x.type(48 + m);
                sum += x.cast(9 - m) + x.ballot(9 - m, 0);
                x.clear();
            }
            sum += x.close() + x.rounds() + x.tally(0, 0) + x.office() + x.holder();
            sum += x.deed(true) + x.sign(1, true) + x.sign(1, false) + x.pass(10);
            x.setPresent(2, i % 2 == 0);
            sum += x.grade(1, i + 1, 5, 0) + x.term(i + 1, 7) + x.points(1, i + 1) + x.terms();
            sum += x.member(0, 0) + x.time() + x.events() + x.event(0, 1) + x.join(1) + x.undo();
        }
        return sum + x.fingerprint();
    }
}
