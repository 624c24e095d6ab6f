/** The section "State": each sentence that names a capacity or another edge has a test of its own. */
public final class StateEdgesTest {
    public static void main(String[] args) {
        Check.sentence("0..48 characters, each with a code in 33..126.", StateEdgesTest::bufferCapacity);
        Check.sentence("Ids are 0, 1, 2, .. in order of admission.", StateEdgesTest::urlIds);
        Check.sentence("There are at most maxUrls of them.", StateEdgesTest::urlCapacity);
        Check.sentence("Their canonical texts together hold at most 256 characters (the URL pool).",
                StateEdgesTest::urlPoolCapacity);
        Check.sentence("Each URL has a canonical text, a state (`STATE_QUEUED`, `STATE_DISPATCHED` or `STATE_BLOCKED`),"
                + " a host id and a dispatch time.", StateEdgesTest::urlParts);
        Check.sentence("The dispatch time is -1 until the URL is dispatched.", StateEdgesTest::timeUntilDispatched);
        Check.sentence("a list of hosts with ids 0..7 in order of creation.", StateEdgesTest::hostCapacity);
        Check.sentence("Each has a name (1..16 characters), a delay (1..16), a next-allowed time and a count of"
                + " dispatches.", StateEdgesTest::hostParts);
        Check.sentence("A host is created only when no host has that name, so names are pairwise different.",
                StateEdgesTest::hostNamesDiffer);
        Check.sentence("a list of at most 8 rules, with ids in order of creation.", StateEdgesTest::ruleCapacity);
        Check.sentence("Each rule is a host id and a prefix text.", StateEdgesTest::ruleParts);
        Check.sentence("All prefixes together hold at most 128 characters (the rule pool).",
                StateEdgesTest::rulePoolCapacity);
        Check.sentence("No method removes a URL, a host or a rule.", StateEdgesTest::nothingIsRemoved);
        Check.sentence("a new host gets the next id, the given name, delay = defaultDelay (as clamped by the"
                + " constructor), next-allowed 0 and count 0.", StateEdgesTest::newHost);
        Check.end();
    }

    private static void bufferCapacity() {
        CrawlFrontier x = new CrawlFrontier(8, 1);
        for (int length = 0; length < 48; length++) {
            Check.due("length", x.textLength(CrawlFrontier.KIND_BUFFER, 0), length);
            Check.due("put at " + length, x.put(33 + length, 0, 0, 0), 1);
        }
        Check.due("put at 48", x.put(33, 0, 0, 0), -1);
        for (int i = 0; i < 48; i++) {
            Check.due("char " + i, x.textChar(CrawlFrontier.KIND_BUFFER, 0, i), 33 + i);
        }
        x.clear();
        for (int code = 126; code > 126 - 48; code--) {
            Check.due("put of " + code, x.put(code, 0, 0, 0), 1);
        }
        for (int i = 0; i < 48; i++) {
            Check.due("char " + i, x.textChar(CrawlFrontier.KIND_BUFFER, 0, i), 126 - i);
        }
        x.clear();
        Check.due("put of 32", x.put(32, 0, 0, 0), 0);
        Check.due("put of 127", x.put(127, 0, 0, 0), 0);
        Check.due("length", x.textLength(CrawlFrontier.KIND_BUFFER, 0), 0);
    }

    private static void urlIds() {
        CrawlFrontier x = new CrawlFrontier(8, 1);
        Check.due("first", Check.submit(x, "http://b/1"), 0);
        Check.due("refused", Check.submit(x, "http://b/1"), CrawlFrontier.DUPLICATE);
        Check.due("refused", Check.submit(x, "http://b/%"), CrawlFrontier.BAD_URL);
        Check.due("second", Check.submit(x, "http://a/1"), 1);
        x.tick(2);
        Check.disallow(x, "http://b");
        Check.due("third", Check.submit(x, "http://a/0"), 2);
        Check.due("text 0", Check.text(x, CrawlFrontier.KIND_URL, 0), "http://b/1");
        Check.due("text 1", Check.text(x, CrawlFrontier.KIND_URL, 1), "http://a/1");
        Check.due("text 2", Check.text(x, CrawlFrontier.KIND_URL, 2), "http://a/0");
    }

    private static void urlCapacity() {
        for (int max = 8; max <= 25; max++) {
            CrawlFrontier x = Made.withUrls(max, max);
            Check.submitRefused(x, Made.shortest(max), CrawlFrontier.FULL);
            Check.due("urls", x.count(CrawlFrontier.COUNT_URLS), max);
        }
        // No text has fewer than 9 characters, and only eight of them have 9, so the pool ends the list here.
        for (int max = 26; max <= 32; max++) {
            CrawlFrontier x = Made.withUrls(max, 26);
            Check.submitRefused(x, Made.shortest(26), CrawlFrontier.FULL);
            Check.due("url chars", x.count(CrawlFrontier.COUNT_URL_CHARS), 252);
        }
    }

    private static void urlPoolCapacity() {
        CrawlFrontier exact = Made.withUrlChars(256);
        String all = "";
        for (int i = 0; i < exact.count(CrawlFrontier.COUNT_URLS); i++) {
            all += Check.text(exact, CrawlFrontier.KIND_URL, i);
        }
        Check.due("characters held", all.length(), 256);
        Check.submitRefused(exact, "http://a", CrawlFrontier.FULL);
        Check.submitRefused(Made.withUrlChars(248), "http://a", CrawlFrontier.FULL);
        Check.due("the last nine", Check.submit(Made.withUrlChars(247), "http://a"), 6);
    }

    private static void urlParts() {
        CrawlFrontier x = new CrawlFrontier(8, 1);
        Check.setDelay(x, "http://b", 4);
        Check.submit(x, "HTTP://A:80/./1#f");
        Check.submit(x, "https://b:0443?q");
        Check.submit(x, "http://a:081/%2e%2E/2");
        x.tick(2);
        Check.disallow(x, "http://a/2");
        Check.submit(x, "http://b/3/..");
        Check.due("urls", Check.urls(x), "\n  kind 0 http://a/1 2 1 1 -1 -1 -1 -1"
                + "\n  kind 0 https://b/?q 2 0 0 -1 -1 -1 -1"
                + "\n  kind 0 http://a:81/2 3 1 -1 -1 -1 -1 -1"
                + "\n  kind 0 http://b/ 1 0 -1 -1 -1 -1 -1");
    }

    private static void timeUntilDispatched() {
        CrawlFrontier x = new CrawlFrontier(8, 16);
        Check.submit(x, "http://a/1");
        Check.submit(x, "http://a/2");
        Check.due("time before", Check.time(x, 0), -1);
        x.tick(1);
        Check.due("time of the dispatched one", Check.time(x, 0), 0);
        for (int step = 1; step < 16; step++) {
            x.tick(1);
            Check.due("time of the waiting one", Check.time(x, 1), -1);
        }
        x.tick(1);
        Check.due("time of the second", Check.time(x, 1), 16);
    }

    private static void hostCapacity() {
        CrawlFrontier x = new CrawlFrontier(32, 1);
        for (int i = 0; i < 8; i++) {
            String text = "http://" + (char) ('z' - i) + "/1";
            int answer = i % 3 == 0 ? Check.submit(x, text)
                    : i % 3 == 1 ? Check.disallow(x, text)
                    : Check.setDelay(x, text, 5);
            Check.due("answer " + i, answer >= 0 ? 1 : 0, 1);
            Check.due("hosts", x.count(CrawlFrontier.COUNT_HOSTS), i + 1);
        }
        for (int i = 0; i < 8; i++) {
            Check.due("name " + i, Check.text(x, CrawlFrontier.KIND_HOST, i), "" + (char) ('z' - i));
        }
        Check.submitRefused(x, "http://a", CrawlFrontier.NO_HOST_ROOM);
        Check.disallowRefused(x, "http://a", CrawlFrontier.NO_HOST_ROOM);
        Check.setDelayRefused(x, "http://a", 1, CrawlFrontier.NO_HOST_ROOM);
    }

    private static void hostParts() {
        CrawlFrontier x = new CrawlFrontier(8, 1);
        for (int length = 1; length <= 8; length++) {
            String name = "bcdefghijklmnopq".substring(0, length == 8 ? 16 : length);
            Check.due("submit", Check.submit(x, "http://" + name), length - 1);
            Check.due("name", Check.text(x, CrawlFrontier.KIND_HOST, length - 1), name);
        }
        Check.malformed("http://", "http:///", "http://bcdefghijklmnopqr", "http://bcdefghijklmnopqr/");
        Check.setDelay(x, "http://b", 1);
        Check.setDelay(x, "http://bcdefghijklmnopq", 16);
        Check.setDelayRefused(x, "http://b", 0, CrawlFrontier.BAD_DELAY);
        Check.setDelayRefused(x, "http://b", 17, CrawlFrontier.BAD_DELAY);
        x.tick(8);
        Check.due("hosts", Check.hosts(x).substring(0, 28), "\n  kind 1 b -1 -1 -1 0 1 1 1");
        Check.due("delay of the last", Check.delay(x, 7), 16);
        Check.due("next of the last", Check.next(x, 7), 7 + 16);
        Check.due("count of the last", Check.sent(x, 7), 1);
    }

    private static void hostNamesDiffer() {
        CrawlFrontier x = new CrawlFrontier(32, 1);
        String[] names = {"a", "A", "aa", "a.", ".a", "AA", "a-", "A.", "abcdefghijklmnop", "ABCDEFGHIJKLMNOP",
            "abcdefghijklmnoq", "abcdefghijklmno"};
        int[] ids = {0, 0, 1, 2, 3, 1, 4, 2, 5, 5, 6, 7};
        int hosts = 0;
        for (int i = 0; i < names.length; i++) {
            hosts = Math.max(hosts, ids[i] + 1);
            Check.due("setDelay of " + names[i], Check.setDelay(x, "http://" + names[i], 1), ids[i]);
            Check.due("submit of " + names[i], Check.submit(x, "http://" + names[i] + "/" + i), i);
            Check.due("its host", Check.host(x, i), ids[i]);
            Check.due("disallow of " + names[i], Check.disallow(x, "https://" + names[i] + ":8/x") >= -4 ? 1 : 0, 1);
            Check.due("hosts after " + names[i], x.count(CrawlFrontier.COUNT_HOSTS), hosts);
        }
    }

    private static void ruleCapacity() {
        CrawlFrontier x = Made.withRules(8);
        for (int i = 0; i < 8; i++) {
            Check.due("rule " + i, Check.text(x, CrawlFrontier.KIND_RULE, i), "/" + i);
        }
        Check.disallowRefused(x, "http://a/8", CrawlFrontier.FULL);
        Check.due("rules", x.count(CrawlFrontier.COUNT_RULES), 8);
    }

    private static void ruleParts() {
        CrawlFrontier x = new CrawlFrontier(8, 1);
        Check.disallow(x, "http://a");
        Check.disallow(x, "https://b:1/p?q#f");
        Check.disallow(x, "http://a?");
        Check.due("rules", Check.rules(x), "\n  kind 2 / -1 0 -1 -1 -1 -1 -1"
                + "\n  kind 2 /p?q -1 1 -1 -1 -1 -1 -1"
                + "\n  kind 2 /? -1 0 -1 -1 -1 -1 -1");
    }

    private static void rulePoolCapacity() {
        CrawlFrontier exact = Made.withRuleChars(128);
        String all = "";
        for (int i = 0; i < exact.count(CrawlFrontier.COUNT_RULES); i++) {
            all += Check.text(exact, CrawlFrontier.KIND_RULE, i);
        }
        Check.due("characters held", all.length(), 128);
        Check.disallowRefused(exact, "http://a", CrawlFrontier.FULL);
        Check.due("the last one", Check.disallow(Made.withRuleChars(127), "http://a"), 0);
    }

    private static void nothingIsRemoved() {
        CrawlFrontier x = Made.busy();
        int[] counted = {CrawlFrontier.COUNT_URLS, CrawlFrontier.COUNT_HOSTS, CrawlFrontier.COUNT_RULES};
        String[] texts = {"http://a/1", "http://a/9", "http://a", "nonsense", "http://e/1", "http://b", ""};
        for (String text : texts) {
            for (int call = 0; call < 5; call++) {
                int[] before = {x.count(counted[0]), x.count(counted[1]), x.count(counted[2])};
                String names = names(x, before);
                Check.type(x, text);
                call(x, call);
                Check.due("texts after call " + call + " with " + text, names(x, before), names);
            }
        }
    }

    private static void call(CrawlFrontier x, int call) {
        switch (call) {
            case 0:
                x.submit();
                break;
            case 1:
                x.disallow();
                break;
            case 2:
                x.setDelay(16);
                break;
            case 3:
                x.clear();
                break;
            default:
                x.tick(64);
                x.clear();
        }
    }

    private static String names(CrawlFrontier x, int[] sizes) {
        StringBuilder names = new StringBuilder();
        for (int kind = 0; kind < 3; kind++) {
            for (int index = 0; index < sizes[kind]; index++) {
                names.append(Check.text(x, kind, index)).append(' ');
            }
        }
        return names.toString();
    }

    private static void newHost() {
        int[] given = {Integer.MIN_VALUE, 0, 1, 16, 17, Integer.MAX_VALUE};
        int[] clamped = {1, 1, 1, 16, 16, 16};
        for (int i = 0; i < given.length; i++) {
            CrawlFrontier x = new CrawlFrontier(8, given[i]);
            Check.submit(x, "http://first/1");
            x.tick(64);
            Check.submit(x, "http://By.Submit");
            Check.disallow(x, "http://By.Disallow");
            Check.setDelay(x, "http://By.SetDelay", 7);
            String fresh = " 0 0";
            Check.due("hosts with default " + given[i], Check.hosts(x),
                    "\n  kind 1 first -1 -1 -1 0 " + clamped[i] + " " + clamped[i] + " 1"
                    + "\n  kind 1 by.submit -1 -1 -1 1 " + clamped[i] + fresh
                    + "\n  kind 1 by.disallow -1 -1 -1 0 " + clamped[i] + fresh
                    + "\n  kind 1 by.setdelay -1 -1 -1 0 7" + fresh);
        }
    }
}
