/** Promise 6: setDelay. */
public final class SetDelayTest {
    public static void main(String[] args) {
        sets();
        refusals();
        noHostRoom();
        Check.end();
    }

    private static void sets() {
        CrawlFrontier x = new CrawlFrontier(8, 3);
        Check.submit(x, "http://a/1");
        Check.submit(x, "http://a/2");
        Check.disallow(x, "http://b/1");
        x.tick(1);
        for (int delay = 1; delay <= 16; delay++) {
            Check.due("known host", Check.setDelay(x, "HTTPS://A:99/z?%41#f", delay), 0);
            Check.due("new delay", x.info(CrawlFrontier.KIND_HOST, 0, CrawlFrontier.F_DELAY), delay);
            Check.due("next", x.info(CrawlFrontier.KIND_HOST, 0, CrawlFrontier.F_NEXT), 3);
        }
        Check.due("new host", Check.setDelay(x, "http://c", 7), 2);
        Check.due("everything", Check.everything(x), "counts 2 3 1 1 1 1 0 20 2 8 3"
                + "\n  kind 0 http://a/1 2 0 0 -1 -1 -1 -1"
                + "\n  kind 0 http://a/2 1 0 -1 -1 -1 -1 -1"
                + "\n  kind 1 a -1 -1 -1 1 16 3 1"
                + "\n  kind 1 b -1 -1 -1 0 3 0 0"
                + "\n  kind 1 c -1 -1 -1 0 7 0 0"
                + "\n  kind 2 /1 -1 1 -1 -1 -1 -1 -1"
                + "\n  buffer ");
        Check.due("tick", x.tick(3), 1);
        Check.due("time", x.info(CrawlFrontier.KIND_URL, 1, CrawlFrontier.F_TIME), 3);
        Check.due("next with the new delay", x.info(CrawlFrontier.KIND_HOST, 0, CrawlFrontier.F_NEXT), 19);
    }

    private static void refusals() {
        CrawlFrontier x = new CrawlFrontier(8, 3);
        Check.submit(x, "http://a/1");
        int[] wrong = {0, 17, -1, 18, 1 << 8, (1 << 16) + 1, Integer.MIN_VALUE, Integer.MAX_VALUE};
        for (int delay : wrong) {
            Check.setDelayRefused(x, "http://a/1", delay, CrawlFrontier.BAD_DELAY);
            Check.setDelayRefused(x, "http://b/1", delay, CrawlFrontier.BAD_DELAY);
            Check.setDelayRefused(x, "", delay, CrawlFrontier.BAD_DELAY);
            Check.setDelayRefused(x, "nonsense", delay, CrawlFrontier.BAD_DELAY);
        }
        String[] malformed = {"", "a", "http:/a", "ftp://a", "http://a:x", "http://a/%", "http://a?%1", "http://a_b"};
        for (String text : malformed) {
            Check.setDelayRefused(x, text, 1, CrawlFrontier.BAD_URL);
            Check.setDelayRefused(x, text, 16, CrawlFrontier.BAD_URL);
        }
    }

    private static void noHostRoom() {
        CrawlFrontier x = new CrawlFrontier(8, 3);
        for (int i = 0; i < 8; i++) {
            Check.due("setDelay " + i, Check.setDelay(x, "http://h" + i, i + 1), i);
        }
        Check.setDelayRefused(x, "http://h8", 5, CrawlFrontier.NO_HOST_ROOM);
        Check.setDelayRefused(x, "http://h8", 17, CrawlFrontier.BAD_DELAY);
        Check.setDelayRefused(x, "http://h8:", 5, CrawlFrontier.BAD_URL);
        Check.due("known host", Check.setDelay(x, "http://h7", 5), 7);
        for (int i = 0; i < 8; i++) {
            Check.due("delay " + i, x.info(CrawlFrontier.KIND_HOST, i, CrawlFrontier.F_DELAY), i == 7 ? 5 : i + 1);
        }
    }
}
