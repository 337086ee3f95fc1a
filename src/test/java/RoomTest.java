import java.lang.management.ManagementFactory;

/** No call makes objects: all rows are made with the object. And no call takes long, even with the dearest court. */
public final class RoomTest {
    private static final com.sun.management.ThreadMXBean THREADS =
        (com.sun.management.ThreadMXBean) ManagementFactory.getThreadMXBean();

    private static final String[] SAYS = {"he hit not and", "she hit not or", "he hits not and", "he hit um or",
        "she hit not and", "he hits um or", "he hit not and"};

    private static String dearest() {
        StringBuilder t = new StringBuilder("name he;name she;deed hit;deed hits;turn not;both and;either or;empty um;"
            + "line who did;line did who;line who did whom;line who whom did;line did who whom;line whom did who;"
            + "fact she hit;fact he hits;accused he hit;");
        for (int i = 0; i < SAYS.length; i++) {
            t.append("witness w").append((char) ('a' + i)).append(" age ").append(i).append(" side ").append(i % 2);
            t.append(" says ").append(SAYS[i]).append(';');
        }
        for (int i = 0; i < 8; i++) {
            t.append("case he hit or she hit and he hits;");
        }
        return t.toString();
    }

    private static long made(WordEach x, int[] feeds, int calls) {
        long before = THREADS.getThreadAllocatedBytes(Thread.currentThread().getId());
        long sum = 0;
        for (int i = 0; i < calls; i++) {
            for (int n = 0; n + 4 < feeds.length; n += 5) {
                x.feed(feeds[n], feeds[n + 1], feeds[n + 2], feeds[n + 3], feeds[n + 4]);
            }
            sum += x.text() + x.say(0, 0) + x.say(1, 1) + x.all(0) + x.one(3) + x.means(0, 1) + x.sense() + x.lots(50);
            x.line(i % 6, false);
            for (int ruling = 0; ruling < 3; ruling++) {
                sum += x.odds(ruling) + x.parts(ruling, 3, 1) + x.cases(ruling) + x.place(ruling) + x.turned(ruling);
                for (int w = 0; w < 7; w++) {
                    sum += x.inn(ruling, w);
                }
                for (int side = -1; side < 2; side++) {
                    sum += x.plan(ruling, side, 0, -1) + x.plan(ruling, side, 1, -1) + x.plan(ruling, side, 2, -1);
                }
            }
            sum += x.game(3, 1) + x.order(1, -1) + x.image() + x.octet(2) + x.instance(1, 1) + (x.restore() ? 1 : 0);
            x.feed(0x6d6f7374, 0x206d6178, 0x28617420, 0x312c776f, 0x7264732b);
            x.feed(0x68617320, 0x322a2872, 0x756c696e, 0x67296169, 0x72292020);
            x.end(37);
            sum += x.ask();
        }
        long after = THREADS.getThreadAllocatedBytes(Thread.currentThread().getId());
        Check.due("something was answered", sum == 0, false);
        return after - before;
    }

    public static void main(String[] args) {
        byte[] text = Check.bytes(dearest());
        int[] feeds = new int[(text.length + 19) / 20 * 5];
        for (int i = 0; i < feeds.length * 4; i++) {
            feeds[i / 4] = feeds[i / 4] << 8 | (i < text.length ? text[i] : 32);
        }
        WordEach x = new WordEach();
        made(x, feeds, 2);
        Check.due("text is taken", x.court(3), 7);
        long made = made(x, feeds, 20);
        Check.due("bytes made by calls: " + made, made < 2000, true);
        Check.over("RoomTest");
    }
}
