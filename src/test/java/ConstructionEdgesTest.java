/** Promise 1: each sentence that names an edge has a test of its own. */
public final class ConstructionEdgesTest {
    private static final int[] EVERY_SIZE = {Integer.MIN_VALUE, Integer.MIN_VALUE + 1, -65536, -256, -33, -16, -8, -1, 0,
        1, 2, 7, 8, 9, 15, 16, 17, 24, 31, 32, 33, 64, 256 + 8, 65536 + 8, Integer.MAX_VALUE - 1, Integer.MAX_VALUE};

    public static void main(String[] args) {
        Check.sentence("accepts every int for both arguments.", ConstructionEdgesTest::everyInt);
        Check.sentence("is clamped into 8..32.", ConstructionEdgesTest::urlsClamped);
        Check.sentence("Any value below 8, including negative values and `Integer.MIN_VALUE`, becomes 8.",
                ConstructionEdgesTest::tooFewUrls);
        Check.sentence("Any value above 32 becomes 32.", ConstructionEdgesTest::tooManyUrls);
        Check.sentence("Values in 8..32 stay.", ConstructionEdgesTest::urlsStay);
        Check.sentence("It is the most URLs ever admitted.", ConstructionEdgesTest::mostUrls);
        Check.sentence("is clamped into 1..16 the same way.", ConstructionEdgesTest::delayClamped);
        Check.sentence("It is the delay of every new host.", ConstructionEdgesTest::delayOfNewHosts);
        Check.sentence("Neither clamped value ever changes afterwards.", ConstructionEdgesTest::neverChanges);
        Check.sentence("an empty buffer;", ConstructionEdgesTest::emptyBuffer);
        Check.sentence("no URLs, no hosts and no rules;", ConstructionEdgesTest::emptyLists);
        Check.sentence("clock T = 0.", ConstructionEdgesTest::clockAtZero);
        Check.sentence("`count` answers 0 for `COUNT_URLS`, `COUNT_HOSTS`, `COUNT_RULES`, `COUNT_TIME`, `COUNT_QUEUED`,"
                + " `COUNT_DISPATCHED`, `COUNT_BLOCKED`, `COUNT_URL_CHARS` and `COUNT_RULE_CHARS`;",
                ConstructionEdgesTest::zeroCounts);
        Check.sentence("`count` answers the clamped values for `COUNT_MAX_URLS` and `COUNT_DEFAULT_DELAY`;",
                ConstructionEdgesTest::clampedCounts);
        Check.sentence("`textLength(KIND_BUFFER, index)` is 0.", ConstructionEdgesTest::bufferLength);
        Check.end();
    }

    private static int maxUrls(int given) {
        return new CrawlFrontier(given, 1).count(CrawlFrontier.COUNT_MAX_URLS);
    }

    private static int defaultDelay(int given) {
        return new CrawlFrontier(8, given).count(CrawlFrontier.COUNT_DEFAULT_DELAY);
    }

    private static void everyInt() {
        for (int max : EVERY_SIZE) {
            for (int delay : EVERY_SIZE) {
                CrawlFrontier x = new CrawlFrontier(max, delay);
                Check.due("max of " + max, x.count(CrawlFrontier.COUNT_MAX_URLS), Math.min(32, Math.max(8, max)));
                Check.due("delay of " + delay, x.count(CrawlFrontier.COUNT_DEFAULT_DELAY),
                        Math.min(16, Math.max(1, delay)));
                Check.due("it works", Check.submit(x, "http://a"), 0);
            }
        }
    }

    private static void urlsClamped() {
        int[] given = {7, 8, 32, 33};
        int[] clamped = {8, 8, 32, 32};
        for (int i = 0; i < given.length; i++) {
            Check.due("max of " + given[i], maxUrls(given[i]), clamped[i]);
        }
    }

    private static void tooFewUrls() {
        int[] given = {7, 6, 1, 0, -1, -8, -32, -33, Integer.MIN_VALUE + 1, Integer.MIN_VALUE};
        for (int max : given) {
            Check.due("max of " + max, maxUrls(max), 8);
            CrawlFrontier x = Made.withUrls(max, 8);
            Check.submitRefused(x, Made.shortest(8), CrawlFrontier.FULL);
        }
    }

    private static void tooManyUrls() {
        int[] given = {33, 34, 64, 255, 256, 65536, 65536 + 8, Integer.MAX_VALUE - 1, Integer.MAX_VALUE};
        for (int max : given) {
            Check.due("max of " + max, maxUrls(max), 32);
            CrawlFrontier x = Made.withUrls(max, 26);
            Check.submitRefused(x, Made.shortest(26), CrawlFrontier.FULL);
        }
    }

    private static void urlsStay() {
        for (int max = 8; max <= 32; max++) {
            Check.due("max of " + max, maxUrls(max), max);
        }
    }

    // Beyond 25 the URL pool is full before the list is.
    private static void mostUrls() {
        for (int max = 8; max <= 25; max++) {
            CrawlFrontier x = Made.withUrls(max, max);
            Check.submitRefused(x, Made.shortest(max), CrawlFrontier.FULL);
            x.tick(64);
            Check.submitRefused(x, Made.shortest(max), CrawlFrontier.FULL);
            Check.disallow(x, "http://a");
            Check.submitRefused(x, "http://b/x", CrawlFrontier.FULL);
            Check.due("urls", x.count(CrawlFrontier.COUNT_URLS), max);
        }
    }

    private static void delayClamped() {
        int[] tooSmall = {0, -1, -16, -17, Integer.MIN_VALUE + 1, Integer.MIN_VALUE};
        for (int delay : tooSmall) {
            Check.due("delay of " + delay, defaultDelay(delay), 1);
        }
        for (int delay = 1; delay <= 16; delay++) {
            Check.due("delay of " + delay, defaultDelay(delay), delay);
        }
        int[] tooLarge = {17, 18, 32, 256 + 5, 65536 + 5, Integer.MAX_VALUE - 1, Integer.MAX_VALUE};
        for (int delay : tooLarge) {
            Check.due("delay of " + delay, defaultDelay(delay), 16);
        }
    }

    private static void delayOfNewHosts() {
        for (int delay = -1; delay <= 18; delay++) {
            int clamped = Math.min(16, Math.max(1, delay));
            CrawlFrontier x = new CrawlFrontier(8, delay);
            for (int i = 0; i < 8; i++) {
                String text = "http://h" + i;
                Check.due("new host", (i % 2 == 0 ? Check.submit(x, text) : Check.disallow(x, text)) >= 0 ? 1 : 0, 1);
                Check.due("its delay", Check.delay(x, i), clamped);
                Check.setDelay(x, text, 17 - clamped);
            }
        }
    }

    private static void neverChanges() {
        CrawlFrontier x = new CrawlFrontier(9, 5);
        String[] texts = {"http://a/1", "http://a", "http://b", "bad", "", "http://a/1", "http://c/x", "http://d/y"};
        for (String text : texts) {
            Check.submit(x, text);
            keeps(x);
            x.tick(1);
            keeps(x);
            Check.submit(x, text + "/0");
            Check.disallow(x, text);
            keeps(x);
            Check.setDelay(x, text, 16);
            keeps(x);
            Check.setDelay(x, text, 17);
            keeps(x);
            x.tick(64);
            keeps(x);
            x.clear();
            keeps(x);
        }
    }

    private static void keeps(CrawlFrontier x) {
        Check.due("max", x.count(CrawlFrontier.COUNT_MAX_URLS), 9);
        Check.due("delay", x.count(CrawlFrontier.COUNT_DEFAULT_DELAY), 5);
    }

    private static void emptyBuffer() {
        CrawlFrontier x = new CrawlFrontier(8, 1);
        Check.due("length", x.textLength(CrawlFrontier.KIND_BUFFER, 0), 0);
        Check.due("character", x.textChar(CrawlFrontier.KIND_BUFFER, 0, 0), -1);
        Check.due("submit", x.submit(), CrawlFrontier.BAD_URL);
        Check.type(x, "0123456789".repeat(4) + "01234567");
        Check.due("room for 48", x.textLength(CrawlFrontier.KIND_BUFFER, 0), 48);
    }

    private static void emptyLists() {
        CrawlFrontier x = new CrawlFrontier(8, 1);
        for (int kind = CrawlFrontier.KIND_URL; kind <= CrawlFrontier.KIND_RULE; kind++) {
            Check.due("length", x.textLength(kind, 0), -1);
            for (int field = 0; field <= 6; field++) {
                Check.due("info", x.info(kind, 0, field), -1);
            }
        }
        Check.due("tick", x.tick(64), 0);
        Check.due("first url", Check.submit(x, "http://a"), 0);
        Check.due("first host", Check.host(x, 0), 0);
    }

    private static void clockAtZero() {
        CrawlFrontier x = new CrawlFrontier(8, 1);
        Check.due("clock", x.count(CrawlFrontier.COUNT_TIME), 0);
        Check.submit(x, "http://a");
        x.tick(1);
        Check.due("time of the first dispatch", Check.time(x, 0), 0);
        Check.due("another object's clock", new CrawlFrontier(8, 1).count(CrawlFrontier.COUNT_TIME), 0);
    }

    private static void zeroCounts() {
        Made.busy();
        for (int size : EVERY_SIZE) {
            CrawlFrontier x = new CrawlFrontier(size, size);
            for (int what = CrawlFrontier.COUNT_URLS; what <= CrawlFrontier.COUNT_RULE_CHARS; what++) {
                Check.due("count " + what, x.count(what), 0);
            }
        }
    }

    private static void clampedCounts() {
        int[][] pairs = {{7, 0, 8, 1}, {8, 1, 8, 1}, {9, 2, 9, 2}, {31, 15, 31, 15}, {32, 16, 32, 16}, {33, 17, 32, 16}};
        for (int[] pair : pairs) {
            CrawlFrontier x = new CrawlFrontier(pair[0], pair[1]);
            Check.due("max", x.count(CrawlFrontier.COUNT_MAX_URLS), pair[2]);
            Check.due("delay", x.count(CrawlFrontier.COUNT_DEFAULT_DELAY), pair[3]);
        }
    }

    private static void bufferLength() {
        CrawlFrontier x = new CrawlFrontier(8, 1);
        for (int index : EVERY_SIZE) {
            Check.due("length at " + index, x.textLength(CrawlFrontier.KIND_BUFFER, index), 0);
        }
    }
}
