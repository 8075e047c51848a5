import java.lang.management.ManagementFactory;

/** All calls of a run live in one room: a new bench takes a small part of it, and no call takes any. */
public final class RoomTest {
    private static final com.sun.management.ThreadMXBean THREADS =
        (com.sun.management.ThreadMXBean) ManagementFactory.getThreadMXBean();

    private RoomTest() {
    }

    public static void main(String[] args) {
        long self = Thread.currentThread().getId();
        SungEvidence warm = new SungEvidence();
        useAll(warm);
        long before = THREADS.getThreadAllocatedBytes(self);
        long behind = THREADS.getThreadAllocatedBytes(self);
        long measuring = behind - before;

        before = THREADS.getThreadAllocatedBytes(self);
        SungEvidence x = new SungEvidence();
        behind = THREADS.getThreadAllocatedBytes(self);
        Check.due("a new bench takes " + (behind - before) + " bytes", behind - before - measuring < 64000, true);

        before = THREADS.getThreadAllocatedBytes(self);
        long answers = useAll(x);
        behind = THREADS.getThreadAllocatedBytes(self);
        Check.due("the calls take " + (behind - before) + " bytes", behind - before - measuring < 2000, true);
        Check.due("the same answers again", answers, useAll(new SungEvidence()));
        Check.close("RoomTest");
    }

    /** Each method, the dearest ones with much to do; without objects of its own. */
    private static long useAll(SungEvidence x) {
        long sum = 0;
        for (int w = 0; w < 8; w++) {
            sum = sum * 31 + x.witness(1 + w, 60, 1 + w);
            for (int fact = 0; fact < 6; fact++) {
                sum += x.claim(w, fact, w % 2) ? 1 : 0;
            }
        }
        // "motive 0 0 up 4 same;   motive 0 1 down 7;      "
        sum = sum * 31 + x.feed(0x6d6f7469, 0x76652030, 0x20302075, 0x70203420, 0x73616d65);
        sum = sum * 31 + x.feed(0x3b6d6f74, 0x69766520, 0x30203120, 0x646f776e, 0x20373b20);
        sum = sum * 31 + (x.end(40) ? 1 : 0) + x.text(0);
        // "slip 9*nerve when not(note<9 or 1=2);   "
        sum = sum * 31 + x.feed(0x736c6970, 0x20392a6e, 0x65727665, 0x20776865, 0x6e206e6f);
        sum = sum * 31 + x.feed(0x74286e6f, 0x74653c39, 0x206f7220, 0x313d3229, 0x3b202020);
        sum = sum * 31 + x.text(1) + x.fault(0);
        // "again 3(rest cross 7call 1 on 0 in 9)   "
        sum = sum * 31 + x.feed(0x61676169, 0x6e203328, 0x72657374, 0x2063726f, 0x73732037);
        sum = sum * 31 + x.feed(0x63616c6c, 0x2031206f, 0x6e203020, 0x696e2039, 0x29202020);
        sum = sum * 31 + x.text(2) + x.fault(1);
        sum = sum * 31 + x.trial() + (x.set(0, 0, 4095) ? 1 : 0) + x.state(7);
        for (int w = 0; w < 8; w++) {
            sum = sum * 31 + x.call(w, 0, 20) + x.cross(w) + x.days(2) + x.of(w, 6);
            sum = sum * 31 + x.testimony(w, 7) + x.bar(w) + x.motive(w, 0) + x.book(w, 1) + x.keys(w, 0, 0);
            sum = sum * 31 + x.fair(w, 0, 20, 2) + x.heard(20 + w) + x.read(9, 0) + x.duet(w, 0);
            sum = sum * 31 + x.best(w, 0, 0, 0) + x.canon(w, 1) + x.weighed(0, 0) + x.found(0) + x.calls(0, 1, 1);
            sum = sum * 31 + x.choir(1) + x.worlds(w, 2) + x.look(w) + (x.strike(w) ? 1 : 0);
            sum = sum * 31 + x.chord(w, (w + 1) % 8, (w + 2) % 8, (w + 3) % 8, 30, 0);
        }
        sum = sum * 31 + (x.image(true) ? 1 : 0) + (x.undo() ? 1 : 0) + (x.image(false) ? 1 : 0);
        return sum;
    }
}
