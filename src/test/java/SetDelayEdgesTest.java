/** Promise 6: each sentence has a test of its own. */
public final class SetDelayEdgesTest {
    private static final int[] OUTSIDE = {0, 17, -1, -16, 18, 32, 256 + 1, 65536 + 16, Integer.MIN_VALUE,
        Integer.MIN_VALUE + 1, Integer.MAX_VALUE};

    public static void main(String[] args) {
        Check.sentence("`setDelay(delay)` empties the buffer, whatever it answers.", SetDelayEdgesTest::empties);
        Check.sentence("delay is outside 1..16: `BAD_DELAY`.", SetDelayEdgesTest::badDelay);
        Check.sentence("This test comes before the buffer is looked at.", SetDelayEdgesTest::delayFirst);
        Check.sentence("The buffer is malformed: `BAD_URL`.", SetDelayEdgesTest::malformed);
        Check.sentence("No host has the buffer's host name and there are 8 hosts: `NO_HOST_ROOM`.",
                SetDelayEdgesTest::noHostRoom);
        Check.sentence("It makes these tests in this order:", SetDelayEdgesTest::order);
        Check.sentence("On a refusal nothing except the buffer changes.", SetDelayEdgesTest::refusalChangesNothing);
        Check.sentence("The host is created if none has that name.", SetDelayEdgesTest::hostCreated);
        Check.sentence("`COUNT_HOSTS` grows by 1 if a host was created.", SetDelayEdgesTest::hostsGrow);
        Check.sentence("Its delay is set to the argument.", SetDelayEdgesTest::delaySet);
        Check.sentence("The answer is its id (0..7).", SetDelayEdgesTest::answersTheId);
        Check.sentence("The host's next-allowed time is unchanged, and so is its count of dispatches.",
                SetDelayEdgesTest::nextStays);
        Check.sentence("The scheme, port, path and query of the buffer play no part beyond syntax.",
                SetDelayEdgesTest::noPart);
        Check.sentence("URLs, rules, the clock and other hosts do not change.", SetDelayEdgesTest::restStays);
        Check.end();
    }

    private static void empties() {
        CrawlFrontier x = Made.withHosts(8);
        String[] texts = {"http://h0", "http://h0", "http://h0", "bad", "bad", "", "", "http://new"};
        int[] delays = {1, 0, 17, 1, 0, 16, 17, 5};
        int[] answers = {0, CrawlFrontier.BAD_DELAY, CrawlFrontier.BAD_DELAY, CrawlFrontier.BAD_URL,
            CrawlFrontier.BAD_DELAY, CrawlFrontier.BAD_URL, CrawlFrontier.BAD_DELAY, CrawlFrontier.NO_HOST_ROOM};
        for (int i = 0; i < texts.length; i++) {
            Check.type(x, texts[i]);
            Check.due("setDelay of " + texts[i], x.setDelay(delays[i]), answers[i]);
            Check.due("buffer", Check.buffer(x), "");
            Check.due("again", x.setDelay(1), CrawlFrontier.BAD_URL);
        }
    }

    private static void badDelay() {
        for (int delay : OUTSIDE) {
            Check.setDelayRefused(Made.busy(), "http://a", delay, CrawlFrontier.BAD_DELAY);
            Check.setDelayRefused(new CrawlFrontier(8, 1), "http://a", delay, CrawlFrontier.BAD_DELAY);
        }
        for (int delay = 1; delay <= 16; delay++) {
            Check.due("delay of " + delay, Check.setDelay(new CrawlFrontier(8, 1), "http://a", delay), 0);
        }
    }

    private static void delayFirst() {
        String[] texts = {"", "bad", "http://", "http://a/%", "ftp://a", "http://a:65536"};
        for (int delay : OUTSIDE) {
            for (String text : texts) {
                Check.setDelayRefused(Made.busy(), text, delay, CrawlFrontier.BAD_DELAY);
            }
            Check.setDelayRefused(Made.withHosts(8), "http://new", delay, CrawlFrontier.BAD_DELAY);
        }
    }

    private static void malformed() {
        String[] texts = {"", "http", "/p", "http:/a", "ftp://a", "http://", "http://a_b", "http://a:", "http://a:65536",
            "http://a/%4", "http://a?%", "http://abcdefghijklmnopq"};
        for (String text : texts) {
            Check.setDelayRefused(new CrawlFrontier(8, 1), text, 1, CrawlFrontier.BAD_URL);
            Check.setDelayRefused(Made.busy(), text, 16, CrawlFrontier.BAD_URL);
        }
    }

    private static void noHostRoom() {
        CrawlFrontier seven = Made.withHosts(7);
        Check.due("the eighth", Check.setDelay(seven, "http://h7", 3), 7);
        Check.setDelayRefused(seven, "http://h8", 3, CrawlFrontier.NO_HOST_ROOM);
        CrawlFrontier eight = Made.withHosts(8);
        String[] unknown = {"http://h8", "http://h", "http://h00", "http://0h", "https://h7."};
        for (String text : unknown) {
            Check.setDelayRefused(eight, text, 3, CrawlFrontier.NO_HOST_ROOM);
        }
        for (int i = 0; i < 8; i++) {
            Check.due("a known one", Check.setDelay(eight, "http://H" + i, 3), i);
        }
    }

    private static void order() {
        CrawlFrontier x = Made.withHosts(8);
        Check.setDelayRefused(x, "http://new/%", 0, CrawlFrontier.BAD_DELAY);
        Check.setDelayRefused(x, "http://new", 17, CrawlFrontier.BAD_DELAY);
        Check.setDelayRefused(x, "http://new/%", 16, CrawlFrontier.BAD_URL);
        Check.setDelayRefused(x, "", 1, CrawlFrontier.BAD_URL);
        Check.setDelayRefused(x, "http://new", 16, CrawlFrontier.NO_HOST_ROOM);
    }

    private static void refusalChangesNothing() {
        CrawlFrontier x = Made.busy();
        Check.setDelayRefused(x, "http://a", 0, CrawlFrontier.BAD_DELAY);
        Check.setDelayRefused(x, "http://new", 17, CrawlFrontier.BAD_DELAY);
        Check.setDelayRefused(x, "http://new/%", 16, CrawlFrontier.BAD_URL);
        Check.setDelayRefused(x, "http://a?%", 16, CrawlFrontier.BAD_URL);
        Check.setDelayRefused(Made.withHosts(8), "http://new", 16, CrawlFrontier.NO_HOST_ROOM);
    }

    private static void hostCreated() {
        CrawlFrontier x = Made.busy();
        String hosts = Check.hosts(x);
        Check.due("id", Check.setDelay(x, "http://New-1.x:8/p", 16), 4);
        Check.due("hosts", Check.hosts(x), hosts + "\n  kind 1 new-1.x -1 -1 -1 0 16 0 0");
        Check.due("the same", Check.setDelay(x, "https://NEW-1.X", 1), 4);
        Check.due("hosts", Check.hosts(x), hosts + "\n  kind 1 new-1.x -1 -1 -1 0 1 0 0");
    }

    private static void hostsGrow() {
        CrawlFrontier x = new CrawlFrontier(8, 1);
        for (int i = 0; i < 8; i++) {
            Check.setDelay(x, "http://h" + i, 1);
            Check.due("a new host", x.count(CrawlFrontier.COUNT_HOSTS), i + 1);
            Check.setDelay(x, "http://h" + i, 2);
            Check.due("a known host", x.count(CrawlFrontier.COUNT_HOSTS), i + 1);
        }
    }

    private static void delaySet() {
        CrawlFrontier x = Made.busy();
        for (int delay = 1; delay <= 16; delay++) {
            Check.setDelay(x, "http://a", delay);
            Check.due("delay", Check.delay(x, 0), delay);
        }
        // It holds from the next dispatch on.
        x.tick(2);
        Check.due("time", Check.time(x, 2), 3);
        Check.due("next", Check.next(x, 0), 3 + 16);
    }

    private static void answersTheId() {
        CrawlFrontier x = new CrawlFrontier(8, 1);
        for (int i = 0; i < 8; i++) {
            Check.due("new", Check.setDelay(x, "http://h" + i, 16), i);
        }
        for (int i = 7; i >= 0; i--) {
            Check.due("known", Check.setDelay(x, "http://h" + i, 1), i);
        }
    }

    private static void nextStays() {
        for (int delay = 1; delay <= 16; delay++) {
            CrawlFrontier x = Made.busy();
            Check.setDelay(x, "http://a", delay);
            Check.due("next", Check.next(x, 0), 3);
            Check.due("sent", Check.sent(x, 0), 1);
            Check.setDelay(x, "http://b", delay);
            Check.due("next", Check.next(x, 1), 10);
            Check.due("sent", Check.sent(x, 1), 1);
            Check.setDelay(x, "http://c", delay);
            Check.due("next", Check.next(x, 2), 0);
            Check.due("sent", Check.sent(x, 2), 0);
        }
    }

    private static void noPart() {
        CrawlFrontier x = Made.busy();
        String[] texts = {"http://b", "https://b", "http://b:81", "https://b:65535/q", "http://b/x/../y?z", "http://b?q",
            "http://b/1#%", "HTTP://B/2"};
        for (int i = 0; i < texts.length; i++) {
            Check.due("setDelay of " + texts[i], Check.setDelay(x, texts[i], i + 1), 1);
            Check.due("delay", Check.delay(x, 1), i + 1);
        }
        Check.due("hosts", x.count(CrawlFrontier.COUNT_HOSTS), 4);
        String[] bad = {"ftp://b", "http://b:x", "http://b:65536", "http://b/%4", "http://b?%"};
        for (String text : bad) {
            Check.setDelayRefused(x, text, 5, CrawlFrontier.BAD_URL);
        }
    }

    private static void restStays() {
        CrawlFrontier x = Made.busy();
        String urls = Check.urls(x);
        String rules = Check.rules(x);
        Check.setDelay(x, "http://a/3", 16);
        Check.setDelay(x, "http://e", 16);
        Check.due("urls", Check.urls(x), urls);
        Check.due("rules", Check.rules(x), rules);
        Check.due("clock", x.count(CrawlFrontier.COUNT_TIME), 2);
        Check.due("hosts", Check.hosts(x), "\n  kind 1 a -1 -1 -1 1 16 3 1"
                + "\n  kind 1 b -1 -1 -1 0 9 10 1"
                + "\n  kind 1 c -1 -1 -1 1 3 0 0"
                + "\n  kind 1 d -1 -1 -1 0 3 0 0"
                + "\n  kind 1 e -1 -1 -1 0 16 0 0");
    }
}
