import com.sun.management.ThreadMXBean;
import java.lang.management.ManagementFactory;

/** All calls of a run live in one room: what an object takes when it is made, and that its calls take no more. */
final class RoomTests {
    private static final ThreadMXBean THREADS = (ThreadMXBean) ManagementFactory.getThreadMXBean();
    private static final long LARGEST_OBJECT = 2000000;

    private RoomTests() {
    }

    static void all() {
        CoalForm warm = filled();
        askAll(warm, 0);
        long start = taken();
        CoalForm x = filled();
        long made = taken() - start;
        Check.due("room: an object and its texts take " + made, made < LARGEST_OBJECT, true);
        start = taken();
        for (int k = 0; k < 12; k++) {
            askAll(x, k);
        }
        long asked = taken() - start;
        Check.due("room: 500 calls take " + asked, asked < 20000, true);
    }

    private static long taken() {
        return THREADS.getThreadAllocatedBytes(Thread.currentThread().getId());
    }

    private static CoalForm filled() {
        CoalForm x = new CoalForm(9);
        for (int k = 0; k < 6; k++) {
            Check.law(x, "1:2#abc;2:d&e&f;" + k + ":g|h&iua");
            Check.form(x, "a>1,2;b>=1,=-;c>=2,=-");
            x.ruling(k, k - 1);
            x.sort(k + 1);
        }
        for (int k = 0; k < 10; k++) {
            Check.question(x, "abcdefghi".charAt(k % 9) + "&b");
        }
        return x;
    }

    private static void askAll(CoalForm x, int k) {
        int law = k % 6;
        x.set(0, 0, k + 1);
        x.chance(0, k % 9, 4);
        x.feed(k, k, k, k, k);
        x.end(0);
        x.fault(k % 3);
        x.says(law, k);
        x.clauses(law, k);
        x.gap(law, 0, 0);
        x.sure(law, 1, 1);
        x.matters(law, 0);
        x.proof(law, 511);
        x.parts(law, 0, -1);
        x.leads(law, k);
        x.apart(law, 0, -1);
        x.unlike(law, 0);
        x.spoiled(law, 0);
        x.unused(law);
        x.share(1, 0);
        x.mean(law, -1, 0, 0);
        x.worst(law, 0, 0, 0);
        x.best(law, 0, 0, 0, 1);
        x.cost(law);
        x.longest(law);
        x.page(law);
        x.tells(0, law);
        x.off(law, law, k);
        x.weak(law, law);
        x.person(k, 0);
        x.mend(law, 0);
        x.swap(law, 0);
        x.chart(law, 6053444, 0);
        x.least(law, 1);
        x.against(law);
        x.cure(law);
        x.burden(law, -1);
        x.given(law, 1, 1, 2);
        x.office(law, 0, 1);
        x.likely(law, 1, -1);
        x.straight(law, 6053444, -1);
        x.count(0);
    }
}
