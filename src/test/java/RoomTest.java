import com.sun.management.ThreadMXBean;
import java.lang.management.ManagementFactory;
import java.util.List;

/** The dearest runs of 512 calls stay far below the room of 600,000 objects and 7.3 million elements. */
public final class RoomTest {
    /** No object takes less than 16 bytes, so this is far below 600,000 objects. */
    private static final long MOST_BYTES = 4_000_000;

    public static void main(String[] args) {
        int wrong = 0;
        wrong += dear("texts of many sums", "1+-1+*5+^+-^+*5+0+0+0+0+0+0+1+-1+1+-1+1+-1+1+-1+1+-1+1+-1+1+-1+1+-1+1+-1+1+-1+1+-1+1+-1+1+-1+1+-1+1+-1+1+-1+1+-1+1+-1");
        wrong += dear("texts of many heaps", "{*9,*9,*9,*9,*9,*9,*9,*9,*9,*9,*9,*9,*9,*9,*9,*9,*9,*9,*9,*9|0,0,0,0,0,0,0,0,0,0,0,0,0,0,0,0,0,0,0,0,0,0,0,0,0,0,0,0}");
        wrong += report("sums", bytesOf(RoomTest::sums));
        wrong += report("new objects", bytesOf(RoomTest::objects) / 16);
        if (wrong > 0) {
            System.exit(1);
        }
    }

    private static int dear(String name, String text) {
        List<Calls> feeds = Calls.feeds(text.length() > 120 ? text.substring(0, 119) + "}" : text);
        return report(name, bytesOf(() -> {
            UppityGames games = new UppityGames();
            for (int calls = 0; calls + feeds.size() < 512; calls += feeds.size() + 1) {
                for (Calls feed : feeds) {
                    games.feed(feed.arguments[0], (int) feed.arguments[1]);
                }
                games.game(0);
            }
        }));
    }

    private static void sums() {
        UppityGames games = new UppityGames();
        games.born(3, -1, 0);
        games.ups(0, 4, 5);
        for (int n = 0; n < 510; n++) {
            games.minus(n & 7, 0);
        }
    }

    private static void objects() {
        for (int n = 0; n < 16; n++) {
            new UppityGames().born(3, 66, 0);
        }
    }

    private static long bytesOf(Runnable run) {
        ThreadMXBean bean = (ThreadMXBean) ManagementFactory.getThreadMXBean();
        run.run();
        long ahead = bean.getCurrentThreadAllocatedBytes();
        run.run();
        return bean.getCurrentThreadAllocatedBytes() - ahead;
    }

    private static int report(String name, long bytes) {
        System.out.println(name + ": " + bytes + " bytes");
        return bytes > MOST_BYTES ? 1 : 0;
    }
}
