import java.lang.management.ManagementFactory;

/** All calls of one run live in one room: what the dearest runs make must stay small. */
public final class RoomTest {
    private static final long MOST_BYTES = 8L << 20;

    private static long made() {
        com.sun.management.ThreadMXBean bean =
            (com.sun.management.ThreadMXBean) ManagementFactory.getThreadMXBean();
        return bean.getThreadAllocatedBytes(Thread.currentThread().getId());
    }

    private static void tell(NamesThatShrink x, String text) {
        for (int i = 0; i < text.length(); i += 4) {
            int v = 0;
            for (int j = i; j < i + 4; j++) {
                v = v << 8 | (j < text.length() ? text.charAt(j) : 0);
            }
            x.sign(v);
        }
        x.end(text.length());
        x.crowd();
    }

    /** Each question on a crowd that was not asked about before, near the limit of states. */
    private static void searches(NamesThatShrink x) {
        tell(x, "aaaaaaa;abbbbbb;acccccc;adddddd;b;c");
        x.set(1, 0, 3);
        System.out.println(x.states() + " states");
        for (int i = 0; i < 120; i++) {
            x.rename(4, 1 + i % 6);
            x.states();
            x.river();
            x.fewest(0x111111);
        }
    }

    private static void others(NamesThatShrink x) {
        tell(x, "abcdef;abcdeb;abcda;abfe;bbbb;ca;d");
        for (int i = 0; i < 60; i++) {
            x.names(6, 5, i % 5);
            x.safe(5, i % 5);
            x.hears(i + 1, false);
            x.asks();
            x.most();
            x.tree();
        }
    }

    private static boolean isSmall(String what, long before) {
        long bytes = made() - before;
        System.out.println(what + ": " + bytes + " bytes");
        return bytes <= MOST_BYTES;
    }

    public static void main(String[] args) {
        long before = made();
        searches(new NamesThatShrink());
        boolean small = isSmall("searches", before);
        before = made();
        others(new NamesThatShrink());
        small = isSmall("others", before) && small;
        if (!small) {
            System.exit(1);
        }
    }
}
