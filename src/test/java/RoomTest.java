import java.lang.management.ManagementFactory;

/** All calls of one run live in one room: rows are made in the constructor, and no call that answers makes anything. */
public final class RoomTest {
    private static final int CALLS = 400;
    private static final int MOST_OF_A_NEW_ONE = 64 * 1024;
    private static final int TRIALS = 5;
    private static final com.sun.management.ThreadMXBean THREADS =
            (com.sun.management.ThreadMXBean) ManagementFactory.getThreadMXBean();

    private RoomTest() {
    }

    public static void main(String[] args) {
        long ofNew = Long.MAX_VALUE;
        long ofCalls = Long.MAX_VALUE;
        // The least of some, as the machine itself makes something now and then, when it loads a class.
        for (int i = 0; i < TRIALS; i++) {
            ofNew = Math.min(ofNew, made());
            ofCalls = Math.min(ofCalls, grown(busy()));
        }
        Check.is("bytes of a new object, " + ofNew, ofNew <= MOST_OF_A_NEW_ONE, true);
        Check.is("bytes of a run of calls", ofCalls, 0);
        Check.end();
    }

    private static long made() {
        long before = THREADS.getCurrentThreadAllocatedBytes();
        DustYard yard = new DustYard();
        long after = THREADS.getCurrentThreadAllocatedBytes();
        Check.is("a new one", yard.fault(), -1);
        return after - before;
    }

    private static DustYard busy() {
        StringBuilder streets = new StringBuilder("fire 50;rats 50;till 999");
        for (int i = 0; i < 7; i++) {
            streets.append(";street at ").append(i).append(" 2 mix 12345").append(i).append(" waits ").append(10 + i);
        }
        DustYard yard = Check.made(streets.toString(), "more 2 if not (far or full);toll 1 if waits>20+x");
        Check.addYard(yard, "cart hold 9 goes 99;cart hold 5 goes 20;sieve 2;sieve 3;sieve 6;contract 1 to 3 many 99 pays 9;"
                + "contract 2 to 5 many 99 pays 8;contract 6 to 6 many 99 pays 7;contract 1 to 6 many 99 pays 6");
        return yard;
    }

    private static long grown(DustYard yard) {
        long before = THREADS.getCurrentThreadAllocatedBytes();
        int calls = 0;
        while (calls < CALLS) {
            calls += looks(yard) + guesses(yard) + acts(yard);
        }
        return THREADS.getCurrentThreadAllocatedBytes() - before;
    }

    private static int looks(DustYard yard) {
        yard.street(1, 4);
        yard.cart(0, 4);
        yard.classOf(7, 3);
        yard.held(7, 3);
        yard.fewest();
        yard.clean(1, 7);
        yard.trips(30);
        yard.worth();
        yard.serves();
        yard.blend(0, 1, 6, 5);
        yard.ends();
        yard.side();
        yard.pairs(0);
        yard.share(1, 99);
        yard.rests(0);
        yard.odds(5, 2);
        yard.twins();
        yard.ahead(-1, 60);
        yard.trial(60, true);
        yard.span(60, true);
        yard.led(1, true);
        yard.log(0, 0);
        return 22;
    }

    private static int guesses(DustYard yard) {
        yard.feed(0x01010202, 0x03030404, 0x05050101, 0x02020303, 0x04040505);
        yard.from();
        yard.feed(0x01010202, 0x03030404, 0x05050101, 0x02020303, 0x04040505);
        yard.likely();
        yard.feed(0x01010202, 0x03030404, 0x05050101, 0x02020303, 0x04040505);
        yard.ask();
        yard.feed(0x01020202, 0, 0, 0, 0);
        yard.end(4);
        yard.meshes(true);
        yard.feed(0x01020202, 0, 0, 0, 0);
        yard.end(4);
        yard.sift();
        yard.feed(0x00010203, 0, 0, 0, 0);
        yard.end(4);
        yard.round();
        return 15;
    }

    /** The text "fire 9" and the law "more 9" are read, too; at the end all is as in the image. */
    private static int acts(DustYard yard) {
        yard.image();
        yard.feed(0x66697265, 0x20390000, 0, 0, 0);
        yard.end(6);
        yard.yard();
        yard.feed(0x6d6f7265, 0x20390000, 0, 0, 0);
        yard.end(6);
        yard.law();
        yard.tip(0);
        yard.lay(0, 1, 9);
        yard.hire(9, 99);
        yard.take(1, 1, 1, 1);
        yard.buy(6);
        yard.fill(4);
        yard.drop(2);
        yard.douse();
        yard.days(60);
        yard.undo();
        yard.back();
        return 18;
    }
}
