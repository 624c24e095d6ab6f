/** Promise 1: construction and the fresh state. */
public final class ConstructionTest {
    public static void main(String[] args) {
        int[] maxUrls = {Integer.MIN_VALUE, -1, 0, 7, 8, 9, 20, 31, 32, 33, 1000, Integer.MAX_VALUE};
        int[] clampedUrls = {8, 8, 8, 8, 8, 9, 20, 31, 32, 32, 32, 32};
        int[] delays = {Integer.MIN_VALUE, -1, 0, 1, 2, 9, 15, 16, 17, 1000, Integer.MAX_VALUE};
        int[] clampedDelays = {1, 1, 1, 1, 2, 9, 15, 16, 16, 16, 16};
        for (int u = 0; u < maxUrls.length; u++) {
            for (int d = 0; d < delays.length; d++) {
                fresh(maxUrls[u], delays[d], clampedUrls[u], clampedDelays[d]);
            }
        }
        clampedValuesStayAndCount();
        Check.end();
    }

    private static void fresh(int maxUrls, int delay, int clampedUrls, int clampedDelay) {
        CrawlFrontier x = new CrawlFrontier(maxUrls, delay);
        String made = "(" + maxUrls + ", " + delay + ") ";
        for (int what = CrawlFrontier.COUNT_URLS; what <= CrawlFrontier.COUNT_RULE_CHARS; what++) {
            Check.due(made + "count " + what, x.count(what), 0);
        }
        Check.due(made + "max urls", x.count(CrawlFrontier.COUNT_MAX_URLS), clampedUrls);
        Check.due(made + "default delay", x.count(CrawlFrontier.COUNT_DEFAULT_DELAY), clampedDelay);
        Check.due(made + "buffer", x.textLength(CrawlFrontier.KIND_BUFFER, -7), 0);
        Check.due(made + "buffer", x.textLength(CrawlFrontier.KIND_BUFFER, 0), 0);
    }

    private static void clampedValuesStayAndCount() {
        for (int max = 8; max <= 25; max++) {
            CrawlFrontier x = new CrawlFrontier(max, max - 7);
            int delay = Math.min(16, max - 7);
            for (int i = 0; i < max; i++) {
                Check.due("submit " + i + " of " + max, Check.submit(x, url(i)), i);
            }
            Check.due("submit past " + max, Check.submit(x, url(max)), CrawlFrontier.FULL);
            Check.setDelay(x, url(0), 16);
            Check.disallow(x, url(0));
            x.tick(64);
            Check.due("max urls", x.count(CrawlFrontier.COUNT_MAX_URLS), max);
            Check.due("default delay", x.count(CrawlFrontier.COUNT_DEFAULT_DELAY), delay);
            Check.due("delay of host", x.info(CrawlFrontier.KIND_HOST, 1, CrawlFrontier.F_DELAY), delay);
        }
    }

    // The shortest texts there are: with 9 and 10 characters the pool holds 26 of them.
    private static String url(int i) {
        return i < 8 ? "http://" + (char) ('a' + i) : "http://a/" + (char) ('a' + i);
    }
}
