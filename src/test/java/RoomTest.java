import com.sun.management.ThreadMXBean;
import java.lang.management.ManagementFactory;

/** All calls of a run live in one room: an object is small, and its calls make nothing anew. */
public final class RoomTest {
    private RoomTest() {
    }

    public static void main(String[] args) {
        ThreadMXBean bean = (ThreadMXBean) ManagementFactory.getThreadMXBean();
        long me = Thread.currentThread().getId();
        StringBuilder text = new StringBuilder("sides 3;argues = skill + slip;marks = good + lean;fines = 1;");
        for (int i = 0; i < 7; i++) {
            text.append("man m").append((char) ('a' + i)).append(" ").append(i % 3).append(" 5 3 90;");
        }
        text.append("motion m 1 2 3;motion n 1 2 3;");
        for (int i = 0; i < 8; i++) {
            text.append("juror j").append((char) ('a' + i)).append(" ").append(i % 3).append(";");
        }
        // An object is used for 512 calls at most; useAll makes some 90.
        WorseSenate[] objects = new WorseSenate[12];
        for (int i = 0; i < objects.length; i++) {
            objects[i] = Check.of(text.toString());
            useAll(objects[i]);
        }
        long before = bean.getThreadAllocatedBytes(me);
        WorseSenate y = new WorseSenate();
        long made = bean.getThreadAllocatedBytes(me) - before;
        Check.due("bytes of an object are few: " + made, made < 100000, true);
        useAll(y);
        before = bean.getThreadAllocatedBytes(me);
        int sum = 0;
        for (int i = 0; i < 40; i++) {
            sum += useAll(objects[i % objects.length]);
        }
        long used = bean.getThreadAllocatedBytes(me) - before;
        Check.due("answers " + sum + " are made of nothing new: " + used, used < 5000, true);
        Check.end("RoomTest");
    }

    private static int useAll(WorseSenate x) {
        int sum = 0;
        for (int man = 0; man < 7; man++) {
            sum += x.speak(man, 0, 0) ? 1 : 0;
            sum += x.praise(man) + x.sum(man, true) + x.say(man, 50) + x.tell(man, 40) + x.thinks(man, x.count(10));
        }
        for (int side = 0; side < 3; side++) {
            sum += x.likely(0, side, true) + x.change(0, side, 1) + x.choose(0, side, 0) + x.chosen(0, side, false);
            sum += x.year(side, 20) + x.praiseFor(0, side, side) + x.now(0, side);
        }
        sum += x.mumble(0, -1) + x.jury(0, 4, 1) + x.ahead(0) + x.harsh(0, true) + x.slipped(1, -1) + x.forget();
        sum += x.hold(0) ? 1 : 0;
        sum += x.session(0) + x.old(0, 1) + x.fine(0, true);
        sum += x.restore(0) ? 1 : 0;
        sum += x.feed(0x73656564, 0x20313233, 0x343b7365, 0x65642035, 0x3b5b2020) + x.read() + x.place();
        return sum;
    }
}
