/** Promise 4: submit. */
public final class SubmitTest {
    public static void main(String[] args) {
        grows();
        duplicateInEveryState();
        disallowed();
        shorterThanTheRule();
        fullList();
        fullPool();
        noHostRoom();
        orderOfTests();
        Check.end();
    }

    private static void grows() {
        CrawlFrontier x = new CrawlFrontier(8, 5);
        Check.setDelay(x, "http://b", 7);
        Check.submit(x, "http://b/0");
        x.tick(2);
        Check.disallow(x, "http://a/no");
        Check.due("new url", Check.submit(x, "HTTP://A/x"), 1);
        Check.due("new host too", Check.submit(x, "https://c:81/?y"), 2);
        Check.due("same host, other port", Check.submit(x, "http://B:99"), 3);
        Check.due("everything", Check.everything(x), "counts 4 3 1 2 3 1 0 47 3 8 5"
                + "\n  kind 0 http://b/0 2 0 0 -1 -1 -1 -1"
                + "\n  kind 0 http://a/x 1 1 -1 -1 -1 -1 -1"
                + "\n  kind 0 https://c:81/?y 1 2 -1 -1 -1 -1 -1"
                + "\n  kind 0 http://b:99/ 1 0 -1 -1 -1 -1 -1"
                + "\n  kind 1 b -1 -1 -1 1 7 7 1"
                + "\n  kind 1 a -1 -1 -1 1 5 0 0"
                + "\n  kind 1 c -1 -1 -1 1 5 0 0"
                + "\n  kind 2 /no -1 1 -1 -1 -1 -1 -1"
                + "\n  buffer ");
    }

    private static void duplicateInEveryState() {
        CrawlFrontier x = new CrawlFrontier(8, 5);
        Check.submit(x, "http://a/1");
        Check.submit(x, "http://a/2");
        Check.submit(x, "http://a/3");
        Check.disallow(x, "http://a/2");
        x.tick(1);
        Check.due("dispatched", x.info(CrawlFrontier.KIND_URL, 0, CrawlFrontier.F_STATE),
                CrawlFrontier.STATE_DISPATCHED);
        Check.submitRefused(x, "http://a/1", CrawlFrontier.DUPLICATE);
        Check.submitRefused(x, "http://a/2", CrawlFrontier.DUPLICATE);
        Check.submitRefused(x, "http://a/3", CrawlFrontier.DUPLICATE);
        Check.submitRefused(x, "HTTP://A:080/x/../%33#4", CrawlFrontier.DUPLICATE);
        Check.submitRefused(x, "", CrawlFrontier.BAD_URL);
        Check.submitRefused(x, "http://a/%3", CrawlFrontier.BAD_URL);
        Check.due("other scheme", Check.submit(x, "https://a/1"), 3);
        Check.due("other port", Check.submit(x, "http://a:81/1"), 4);
        Check.due("shorter", Check.submit(x, "http://a/"), 5);
        Check.due("longer", Check.submit(x, "http://a/11"), 6);
        Check.due("other case", Check.submit(x, "http://a/1?Q"), 7);
    }

    private static void disallowed() {
        CrawlFrontier x = new CrawlFrontier(20, 5);
        Check.disallow(x, "https://a:8080/p?q#f");
        Check.disallow(x, "http://b/A/");
        Check.submitRefused(x, "http://a/p?q", CrawlFrontier.DISALLOWED);
        Check.submitRefused(x, "https://a/p?q", CrawlFrontier.DISALLOWED);
        Check.submitRefused(x, "http://a:99/p?qr", CrawlFrontier.DISALLOWED);
        Check.submitRefused(x, "http://a/x/../p?q=1#f", CrawlFrontier.DISALLOWED);
        Check.submitRefused(x, "http://a/%70?%71", CrawlFrontier.DISALLOWED);
        Check.submitRefused(x, "http://b/A/", CrawlFrontier.DISALLOWED);
        Check.submitRefused(x, "http://b/A/b", CrawlFrontier.DISALLOWED);
        String[] fine = {"http://a/p", "http://a/p?", "http://a/p?Q", "http://a/P?q", "http://a/pp?q", "http://b/A",
            "http://b/a/", "http://b/p?q", "http://c/p?q", "http://aa/p?q", "http://a/x/p?q"};
        for (int i = 0; i < fine.length; i++) {
            Check.due("submit of " + fine[i], Check.submit(x, fine[i]), i);
        }
    }

    // What an earlier, longer text left behind must not count as part of this one.
    private static void shorterThanTheRule() {
        CrawlFrontier x = new CrawlFrontier(20, 5);
        Check.disallow(x, "http://a/xyz");
        Check.due("shorter by two", Check.submit(x, "http://a/x"), 0);
        Check.submitRefused(x, "http://a/xyz", CrawlFrontier.DISALLOWED);
        Check.due("shorter by one", Check.submit(x, "http://a/xy"), 1);
        Check.submitRefused(x, "http://a/xyz", CrawlFrontier.DISALLOWED);
        Check.due("shorter by three", Check.submit(x, "http://a"), 2);
    }

    private static void fullList() {
        CrawlFrontier x = new CrawlFrontier(8, 1);
        Check.disallow(x, "http://a/no");
        for (int i = 0; i < 8; i++) {
            Check.due("submit " + i, Check.submit(x, "http://a/" + i), i);
        }
        Check.submitRefused(x, "http://a/8", CrawlFrontier.FULL);
        Check.submitRefused(x, "http://new/8", CrawlFrontier.FULL);
        Check.submitRefused(x, "http://a/7", CrawlFrontier.DUPLICATE);
        Check.submitRefused(x, "http://a/no", CrawlFrontier.DISALLOWED);
        Check.submitRefused(x, "http://a/%", CrawlFrontier.BAD_URL);
        x.tick(64);
        Check.submitRefused(x, "http://a/8", CrawlFrontier.FULL);
        Check.disallow(x, "http://a/");
        Check.submitRefused(x, "http://b/8", CrawlFrontier.FULL);
    }

    private static void fullPool() {
        CrawlFrontier x = new CrawlFrontier(32, 1);
        for (int i = 0; i < 5; i++) {
            Check.due("submit of 48", Check.submit(x, Made.text(48, (char) ('p' + i))), i);
        }
        Check.due("chars", x.count(CrawlFrontier.COUNT_URL_CHARS), 240);
        Check.submitRefused(x, Made.text(17, 'x'), CrawlFrontier.FULL);
        Check.submitRefused(x, Made.text(48, 'x'), CrawlFrontier.FULL);
        Check.due("submit of 15", Check.submit(x, Made.text(15, 'y')), 5);
        Check.submitRefused(x, "http://a", CrawlFrontier.FULL);
        Check.submitRefused(x, Made.text(15, 'y'), CrawlFrontier.DUPLICATE);
        CrawlFrontier exact = new CrawlFrontier(32, 1);
        for (int i = 0; i < 5; i++) {
            Check.submit(exact, Made.text(48, (char) ('p' + i)));
        }
        Check.due("submit of 16", Check.submit(exact, Made.text(16, 'z')), 5);
        Check.due("chars", exact.count(CrawlFrontier.COUNT_URL_CHARS), 256);
        Check.due("last text", Check.text(exact, CrawlFrontier.KIND_URL, 5), Made.text(16, 'z'));
        Check.submitRefused(exact, "http://a", CrawlFrontier.FULL);
    }

    private static void noHostRoom() {
        CrawlFrontier x = new CrawlFrontier(32, 1);
        for (int i = 0; i < 8; i++) {
            Check.due("submit " + i, Check.submit(x, "http://h" + i), i);
        }
        Check.submitRefused(x, "http://h8", CrawlFrontier.NO_HOST_ROOM);
        Check.submitRefused(x, "http://h", CrawlFrontier.NO_HOST_ROOM);
        Check.submitRefused(x, "http://h00", CrawlFrontier.NO_HOST_ROOM);
        Check.due("known host", Check.submit(x, "http://h7/x"), 8);
        Check.due("its host", x.info(CrawlFrontier.KIND_URL, 8, CrawlFrontier.F_HOST), 7);
    }

    private static void orderOfTests() {
        CrawlFrontier x = new CrawlFrontier(8, 1);
        for (int i = 0; i < 8; i++) {
            Check.submit(x, "http://h" + i);
        }
        Check.submitRefused(x, "http://h8", CrawlFrontier.FULL);
        Check.disallow(x, "http://h3");
        Check.submitRefused(x, "http://h3/", CrawlFrontier.DUPLICATE);
        Check.submitRefused(x, "http://h3/x", CrawlFrontier.DISALLOWED);
        Check.submitRefused(x, "http://h4/x", CrawlFrontier.FULL);
        Check.submitRefused(x, "http://h8:/", CrawlFrontier.BAD_URL);
    }
}
