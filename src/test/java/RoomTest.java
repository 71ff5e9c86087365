import com.sun.management.ThreadMXBean;
import java.lang.management.ManagementFactory;

/** All calls of one run live in one room: rows are made with the object, and calls make next to nothing. */
public final class RoomTest {
    private static final int CALLS = 512;

    private static final Due due = new Due("RoomTest");
    private static long answers;

    private RoomTest() {
    }

    public static void main(String[] args) {
        ThreadMXBean bean = (ThreadMXBean) ManagementFactory.getThreadMXBean();
        bean.getCurrentThreadAllocatedBytes();
        answers += new NobodyThere().look(0);
        long before = bean.getCurrentThreadAllocatedBytes();
        NobodyThere x = new NobodyThere();
        long made = bean.getCurrentThreadAllocatedBytes() - before;
        due.yes("an object takes " + made + " bytes", made < 60000);
        due.part("calls");
        fill(x);
        x.image(true);
        before = bean.getCurrentThreadAllocatedBytes();
        for (int i = 0; i < CALLS; i++) {
            call(x, i);
        }
        made = bean.getCurrentThreadAllocatedBytes() - before;
        due.yes(CALLS + " calls take " + made + " bytes", made < 4000);
        before = bean.getCurrentThreadAllocatedBytes();
        for (int i = 0; i < 20; i++) {
            answers += x.feed(0x77616c6b, 0x65722031, 0x20636f6d, 0x65732031, 0x20617420);
            x.end(10 + i % 10);
            answers += x.text(i % 3);
        }
        made = bean.getCurrentThreadAllocatedBytes() - before;
        due.yes("texts take " + made + " bytes", made < 4000);
        due.close();
    }

    private static void fill(NobodyThere x) {
        x.bridge(8, 7);
        Due.tell(x, 0, "walker 1 comes 0 at 0 stand 60 stand 60;".repeat(9));
        Due.tell(x, 1, "shade x*y+minute/7 when not (x=9 or y=9) and minute>1000;".repeat(6));
        Due.tell(x, 2, "worth people*covered-edges when not (step=9 or minute>600);".repeat(6));
        x.set(1, 900);
        x.set(2, 60);
        x.set(0, 4);
        for (int i = 0; i < 10; i++) {
            x.minutes(5);
            x.step(i % 4 + 1);
            x.shoot();
        }
    }

    private static void call(NobodyThere x, int i) {
        switch (i % 24) {
            case 0: answers += x.best(1); break;
            case 1: answers += x.whenShot(i % 10, 0); break;
            case 2: answers += x.fewest(1); break;
            case 3: answers += x.fewest(2); break;
            case 4: answers += x.ghosts(0, 500); break;
            case 5: answers += x.exposed(0, 500, 9, 1); break;
            case 6: answers += x.hours(9, 50, 0); break;
            case 7: answers += x.stander(1); break;
            case 8: answers += x.two(1); break;
            case 9: answers += x.sure(1023, 2); break;
            case 10: answers += x.middle(1023, 9); break;
            case 11: answers += x.most(1023); break;
            case 12: answers += x.enough(400, 999999); break;
            case 13: answers += x.nobody(500); break;
            case 14: answers += x.picture(2); break;
            case 15: answers += x.image(i % 48 == 15) ? 1 : 0; break;
            case 16: answers += x.minutes(1); break;
            case 17: answers += x.undo() ? 1 : 0; break;
            case 18: answers += x.shoot(); break;
            case 19: answers += x.steps(0, 500); break;
            case 20: answers += x.row(0); break;
            case 21: answers += x.with(0, 500); break;
            case 22: answers += x.paste(9, 3) ? 1 : 0; break;
            default: answers += x.never(0, 500);
        }
    }
}
