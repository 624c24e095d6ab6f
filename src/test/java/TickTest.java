/** Promise 7: tick. */
public final class TickTest {
    public static void main(String[] args) {
        clampsSteps();
        oneStepAtATime();
        choosesTheEarliest();
        tieGoesToTheSmallestId();
        blockedIsNeverSent();
        keepsTheBuffer();
        Check.end();
    }

    private static int time(CrawlFrontier x, int url) {
        return x.info(CrawlFrontier.KIND_URL, url, CrawlFrontier.F_TIME);
    }

    private static int next(CrawlFrontier x, int host) {
        return x.info(CrawlFrontier.KIND_HOST, host, CrawlFrontier.F_NEXT);
    }

    private static String belowCounts(CrawlFrontier x) {
        String lists = Check.lists(x);
        return lists.substring(lists.indexOf('\n'));
    }

    private static void clampsSteps() {
        int[] n = {Integer.MIN_VALUE, -64, -1, 0, 1, 2, 63, 64, 65, 1000, Integer.MAX_VALUE};
        int[] steps = {1, 1, 1, 1, 1, 2, 63, 64, 64, 64, 64};
        for (int i = 0; i < n.length; i++) {
            CrawlFrontier x = new CrawlFrontier(8, 1);
            Check.due("tick of nothing", x.tick(n[i]), 0);
            Check.due("time after tick " + n[i], x.count(CrawlFrontier.COUNT_TIME), steps[i]);
            Check.submit(x, "http://a/1");
            Check.submit(x, "http://a/2");
            Check.due("tick " + n[i], x.tick(n[i]), Math.min(2, steps[i]));
            Check.due("time after tick " + n[i], x.count(CrawlFrontier.COUNT_TIME), 2 * steps[i]);
            Check.due("time of url 0", time(x, 0), steps[i]);
            Check.due("time of url 1", time(x, 1), steps[i] == 1 ? -1 : steps[i] + 1);
        }
    }

    private static void oneStepAtATime() {
        for (int delay = 1; delay <= 16; delay++) {
            CrawlFrontier x = new CrawlFrontier(8, delay);
            Check.submit(x, "http://a/1");
            Check.submit(x, "http://a/2");
            Check.submit(x, "http://a/3");
            for (int t = 0; t <= 2 * delay + 2; t++) {
                boolean due = t % delay == 0 && t / delay < 3;
                String before = belowCounts(x);
                Check.due("step " + t + " with delay " + delay, x.tick(1), due ? 1 : 0);
                if (due) {
                    Check.due("time", time(x, t / delay), t);
                    Check.due("next", next(x, 0), t + delay);
                    Check.due("sent", x.info(CrawlFrontier.KIND_HOST, 0, CrawlFrontier.F_SENT), t / delay + 1);
                } else {
                    Check.due("nothing but the clock", belowCounts(x), before);
                }
                Check.due("clock", x.count(CrawlFrontier.COUNT_TIME), t + 1);
            }
        }
    }

    private static void choosesTheEarliest() {
        CrawlFrontier x = new CrawlFrontier(16, 1);
        Check.setDelay(x, "http://a", 6);
        Check.setDelay(x, "http://b", 4);
        Check.submit(x, "http://a/1");
        Check.submit(x, "http://b/1");
        Check.due("both", x.tick(2), 2);
        Check.due("next of a", next(x, 0), 6);
        Check.due("next of b", next(x, 1), 5);
        x.tick(8);
        Check.submit(x, "http://a/2");
        Check.submit(x, "http://b/2");
        Check.submit(x, "http://c/1");
        Check.due("all three", x.tick(3), 3);
        Check.due("c was allowed since 0", time(x, 4), 10);
        Check.due("b was allowed since 5", time(x, 3), 11);
        Check.due("a was allowed since 6", time(x, 2), 12);
        Check.due("next of c", next(x, 2), 11);
        Check.due("next of b", next(x, 1), 15);
        Check.due("next of a", next(x, 0), 18);
    }

    private static void tieGoesToTheSmallestId() {
        CrawlFrontier x = new CrawlFrontier(16, 16);
        for (int i = 0; i < 8; i++) {
            Check.setDelay(x, "http://h" + i, 16);
        }
        for (int i = 7; i >= 0; i--) {
            Check.submit(x, "http://h" + i);
        }
        Check.due("eight", x.tick(20), 8);
        for (int i = 0; i < 8; i++) {
            Check.due("time of h" + i, time(x, 7 - i), i);
            Check.due("next of h" + i, next(x, i), 16 + i);
        }
    }

    private static void blockedIsNeverSent() {
        CrawlFrontier x = new CrawlFrontier(16, 2);
        Check.submit(x, "http://a/1");
        Check.submit(x, "http://a/2");
        Check.submit(x, "http://b/1");
        Check.disallow(x, "http://a/1");
        Check.disallow(x, "http://b");
        Check.due("one is left", x.tick(64), 1);
        Check.due("blocked", time(x, 0), -1);
        Check.due("queued", time(x, 1), 0);
        Check.due("blocked", time(x, 2), -1);
        Check.due("next of b", next(x, 1), 0);
        String texts = Check.lists(x).replace("counts 3 2 2 64", "counts 3 2 2 128");
        Check.due("each is sent once", x.tick(64), 0);
        Check.due("lists", Check.lists(x), texts);
    }

    private static void keepsTheBuffer() {
        CrawlFrontier x = new CrawlFrontier(16, 2);
        Check.submit(x, "http://a/1");
        Check.type(x, "http://a/22");
        x.tick(3);
        Check.due("buffer", Check.text(x, CrawlFrontier.KIND_BUFFER, 0), "http://a/22");
        Check.due("submit", x.submit(), 1);
    }
}
