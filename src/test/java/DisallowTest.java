/** Promise 5: disallow. */
public final class DisallowTest {
    public static void main(String[] args) {
        blocks();
        touchesNothingElse();
        longPrefix();
        duplicates();
        fullList();
        fullPool();
        noHostRoom();
        Check.end();
    }

    private static void blocks() {
        CrawlFrontier x = new CrawlFrontier(20, 4);
        String[] urls = {"http://a/p", "https://a/p", "http://a:8/p?q", "http://a/pq", "http://b/p", "http://a/P",
            "http://a/", "http://ab/p", "http://a/x/p"};
        int[] states = {3, 3, 3, 3, 1, 1, 1, 1, 1};
        for (String url : urls) {
            Check.submit(x, url);
        }
        Check.due("disallow", Check.disallow(x, "HTTPS://A:77/y/../%70#x"), 4);
        for (int i = 0; i < urls.length; i++) {
            Check.due("state of " + urls[i], x.info(CrawlFrontier.KIND_URL, i, CrawlFrontier.F_STATE), states[i]);
            Check.due("time of " + urls[i], x.info(CrawlFrontier.KIND_URL, i, CrawlFrontier.F_TIME), -1);
            Check.due("text of " + urls[i], Check.text(x, CrawlFrontier.KIND_URL, i), urls[i]);
        }
        Check.due("queued", x.count(CrawlFrontier.COUNT_QUEUED), 5);
        Check.due("blocked", x.count(CrawlFrontier.COUNT_BLOCKED), 4);
        Check.due("queued of a", x.info(CrawlFrontier.KIND_HOST, 0, CrawlFrontier.F_QUEUED), 3);
        Check.due("queued of b", x.info(CrawlFrontier.KIND_HOST, 1, CrawlFrontier.F_QUEUED), 1);
        Check.due("rule", Check.text(x, CrawlFrontier.KIND_RULE, 0), "/p");
        Check.due("narrower rule blocks none again", Check.disallow(x, "http://a/pq"), 0);
        Check.due("wider rule blocks the rest of a", Check.disallow(x, "http://a"), 3);
        Check.due("blocked", x.count(CrawlFrontier.COUNT_BLOCKED), 7);
        Check.due("rules", x.count(CrawlFrontier.COUNT_RULES), 3);
        Check.due("rule chars", x.count(CrawlFrontier.COUNT_RULE_CHARS), 6);
        Check.due("tick", x.tick(64), 2);
        Check.due("a blocked url stays", Check.submit(x, "http://a/p"), CrawlFrontier.DUPLICATE);
    }

    private static void touchesNothingElse() {
        CrawlFrontier x = new CrawlFrontier(8, 4);
        Check.submit(x, "http://a/1");
        Check.submit(x, "http://a/2?x");
        Check.submit(x, "http://a/2");
        Check.submit(x, "http://b/1");
        Check.setDelay(x, "http://b", 9);
        Check.disallow(x, "http://a/2?");
        x.tick(2);
        Check.due("disallow", Check.disallow(x, "http://a"), 1);
        Check.due("new host", Check.disallow(x, "http://c/z?y"), 0);
        Check.due("everything", Check.everything(x), "counts 4 3 3 2 0 2 2 42 8 8 4"
                + "\n  kind 0 http://a/1 2 0 0 -1 -1 -1 -1"
                + "\n  kind 0 http://a/2?x 3 0 -1 -1 -1 -1 -1"
                + "\n  kind 0 http://a/2 3 0 -1 -1 -1 -1 -1"
                + "\n  kind 0 http://b/1 2 1 1 -1 -1 -1 -1"
                + "\n  kind 1 a -1 -1 -1 0 4 4 1"
                + "\n  kind 1 b -1 -1 -1 0 9 10 1"
                + "\n  kind 1 c -1 -1 -1 0 4 0 0"
                + "\n  kind 2 /2? -1 0 -1 -1 -1 -1 -1"
                + "\n  kind 2 / -1 0 -1 -1 -1 -1 -1"
                + "\n  kind 2 /z?y -1 2 -1 -1 -1 -1 -1"
                + "\n  buffer ");
    }

    // A prefix longer than the path must not be read on into the next URL.
    private static void longPrefix() {
        CrawlFrontier x = new CrawlFrontier(8, 4);
        Check.submit(x, "http://a/x");
        Check.submit(x, "http://b/y");
        Check.due("disallow", Check.disallow(x, "http://a/xhttp"), 0);
        Check.due("disallow", Check.disallow(x, "http://a/xh"), 0);
        Check.due("queued", x.count(CrawlFrontier.COUNT_QUEUED), 2);
        Check.due("disallow", Check.disallow(x, "http://a/x"), 1);
    }

    private static void duplicates() {
        CrawlFrontier x = new CrawlFrontier(8, 4);
        Check.disallow(x, "http://a/p");
        Check.disallowRefused(x, "http://a/p", CrawlFrontier.DUPLICATE);
        Check.disallowRefused(x, "https://A:9/./%70#f", CrawlFrontier.DUPLICATE);
        Check.disallowRefused(x, "", CrawlFrontier.BAD_URL);
        Check.disallowRefused(x, "/p", CrawlFrontier.BAD_URL);
        Check.disallowRefused(x, "ftp://a/p", CrawlFrontier.BAD_URL);
        Check.disallowRefused(x, "http://a:65536/p", CrawlFrontier.BAD_URL);
        Check.due("other host", Check.disallow(x, "http://b/p"), 0);
        Check.due("other case", Check.disallow(x, "http://a/P"), 0);
        Check.due("longer", Check.disallow(x, "http://a/pp"), 0);
        Check.due("shorter", Check.disallow(x, "http://a/"), 0);
        Check.due("query", Check.disallow(x, "http://a/p?"), 0);
        Check.due("rules", x.count(CrawlFrontier.COUNT_RULES), 6);
        Check.due("hosts", x.count(CrawlFrontier.COUNT_HOSTS), 2);
    }

    private static void fullList() {
        CrawlFrontier x = new CrawlFrontier(8, 4);
        Check.submit(x, "http://a/9");
        for (int i = 0; i < 8; i++) {
            Check.due("disallow " + i, Check.disallow(x, "http://a/" + i), 0);
        }
        Check.disallowRefused(x, "http://a/9", CrawlFrontier.FULL);
        Check.disallowRefused(x, "http://b/9", CrawlFrontier.FULL);
        Check.disallowRefused(x, "http://a/7", CrawlFrontier.DUPLICATE);
        Check.disallowRefused(x, "http://a/%", CrawlFrontier.BAD_URL);
    }

    private static void fullPool() {
        String thirtyNine = "123456789012345678901234567890123456789";
        CrawlFrontier x = new CrawlFrontier(8, 4);
        Check.disallow(x, "http://a/" + thirtyNine);
        Check.disallow(x, "http://b/" + thirtyNine);
        Check.disallow(x, "http://a?" + thirtyNine);
        Check.due("rule chars", x.count(CrawlFrontier.COUNT_RULE_CHARS), 121);
        Check.disallowRefused(x, "http://a/2345678", CrawlFrontier.FULL);
        Check.disallowRefused(x, "http://c/" + thirtyNine, CrawlFrontier.FULL);
        Check.disallowRefused(x, "http://b/" + thirtyNine, CrawlFrontier.DUPLICATE);
        Check.due("just fits", Check.disallow(x, "http://a/234567"), 0);
        Check.due("rule chars", x.count(CrawlFrontier.COUNT_RULE_CHARS), 128);
        Check.due("text", Check.text(x, CrawlFrontier.KIND_RULE, 3), "/234567");
        Check.disallowRefused(x, "http://b", CrawlFrontier.FULL);
    }

    private static void noHostRoom() {
        CrawlFrontier x = new CrawlFrontier(8, 4);
        for (int i = 0; i < 7; i++) {
            Check.due("disallow " + i, Check.disallow(x, "http://h" + i), 0);
        }
        Check.setDelay(x, "http://h7", 2);
        Check.disallowRefused(x, "http://h8", CrawlFrontier.NO_HOST_ROOM);
        Check.disallowRefused(x, "http://h6", CrawlFrontier.DUPLICATE);
        Check.due("known host", Check.disallow(x, "http://h7"), 0);
        Check.disallowRefused(x, "http://h8", CrawlFrontier.FULL);
    }
}
