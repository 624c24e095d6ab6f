/** Promise 4: each sentence has a test of its own. */
public final class SubmitEdgesTest {
    public static void main(String[] args) {
        refusals();
        admissions();
        Check.end();
    }

    private static void refusals() {
        Check.sentence("`submit()` canonicalises the buffer and empties it, whatever it answers.",
                SubmitEdgesTest::empties);
        Check.sentence("The buffer text is malformed (including an empty buffer): `BAD_URL`.",
                SubmitEdgesTest::malformed);
        Check.sentence("The canonical text equals the text of an admitted URL, in any state (queued, dispatched or"
                + " blocked): `DUPLICATE`.", SubmitEdgesTest::duplicate);
        Check.sentence("The URL matches a rule: `DISALLOWED`.", SubmitEdgesTest::disallowed);
        Check.sentence("Either the URL count equals maxUrls,", SubmitEdgesTest::fullList);
        Check.sentence("or `COUNT_URL_CHARS` + its length would exceed 256: `FULL`.", SubmitEdgesTest::fullPool);
        Check.sentence("No host has its host name and there are already 8 hosts: `NO_HOST_ROOM`.",
                SubmitEdgesTest::noHostRoom);
        Check.sentence("It makes these tests in this order; the first that applies gives the answer:",
                SubmitEdgesTest::onlyOneApplies);
        Check.sentence("Because of this order, a duplicate text is answered `DUPLICATE` even when the list is full, and"
                + " so on down the list.", SubmitEdgesTest::order);
        Check.sentence("On a refusal nothing except the buffer changes. No host is created and no URL is added.",
                SubmitEdgesTest::refusalChangesNothing);
    }

    private static void admissions() {
        Check.sentence("The host is created if none has that name.", SubmitEdgesTest::hostCreated);
        Check.sentence("`COUNT_HOSTS` grows by 1 if a host was created.", SubmitEdgesTest::hostsGrow);
        Check.sentence("The URL is appended with the next id (the previous URL count), state `STATE_QUEUED`, that host"
                + " id and time -1.", SubmitEdgesTest::appended);
        Check.sentence("The answer is the new id, in 0..maxUrls-1.", SubmitEdgesTest::answersTheId);
        Check.sentence("`COUNT_URLS` and `COUNT_QUEUED` grow by 1.", SubmitEdgesTest::countsGrow);
        Check.sentence("`COUNT_URL_CHARS` grows by the length of the canonical text.", SubmitEdgesTest::charsGrow);
        Check.sentence("The host's `F_QUEUED` grows by 1.", SubmitEdgesTest::queueGrows);
        Check.sentence("The following do not change: the clock, the rules, the other URLs, and the delays, next-allowed"
                + " times and dispatch counts of all hosts that already existed.", SubmitEdgesTest::othersStay);
    }

    private static void empties() {
        CrawlFrontier x = Made.busy();
        String[] texts = {"http://e/1", "http://e/1", "bad", "", "http://d/z", "http://a/2"};
        int[] answers = {5, CrawlFrontier.DUPLICATE, CrawlFrontier.BAD_URL, CrawlFrontier.BAD_URL,
            CrawlFrontier.DISALLOWED, CrawlFrontier.DUPLICATE};
        for (int i = 0; i < texts.length; i++) {
            Check.type(x, texts[i]);
            Check.due("submit of " + texts[i], x.submit(), answers[i]);
            Check.due("buffer", Check.buffer(x), "");
            Check.due("again", x.submit(), CrawlFrontier.BAD_URL);
        }
    }

    private static void malformed() {
        String[] texts = {"", "http", "http:/a", "ftp://a", "http://", "http://a_b", "http://a:", "http://a:65536",
            "http://a/%4", "http://a?%", "http://abcdefghijklmnopq"};
        for (String text : texts) {
            Check.submitRefused(new CrawlFrontier(8, 1), text, CrawlFrontier.BAD_URL);
            Check.submitRefused(Made.busy(), text, CrawlFrontier.BAD_URL);
        }
    }

    private static void duplicate() {
        CrawlFrontier x = Made.busy();
        int[] states = {CrawlFrontier.STATE_DISPATCHED, CrawlFrontier.STATE_BLOCKED, CrawlFrontier.STATE_QUEUED};
        for (int url = 0; url < 3; url++) {
            Check.due("state " + url, Check.state(x, url), states[url]);
            Check.submitRefused(x, "http://a/" + (url + 1), CrawlFrontier.DUPLICATE);
            Check.submitRefused(x, "HTTP://A:80/x/../%3" + (url + 1) + "#f", CrawlFrontier.DUPLICATE);
        }
        Check.submitRefused(x, "https://C:0081/x?%79", CrawlFrontier.DUPLICATE);
        Check.due("other scheme", Check.submit(x, "https://a/1"), 5);
        Check.due("other port", Check.submit(x, "http://a:81/1"), 6);
        Check.due("longer by one", Check.submit(x, "http://a/11"), 7);
        Check.due("shorter by one", Check.submit(x, "http://a/"), 8);
        Check.due("longer by the next one", Check.submit(x, "http://a/1http://a/2"), 9);
        Check.due("other last character", Check.submit(x, "http://b/2"), 10);
        Check.due("other case", Check.submit(x, "https://c:81/X?y"), 11);
    }

    private static void disallowed() {
        CrawlFrontier x = Made.busy();
        Check.submitRefused(x, "http://d/z", CrawlFrontier.DISALLOWED);
        Check.submitRefused(x, "https://D:99/%7A?q#f", CrawlFrontier.DISALLOWED);
        Check.submitRefused(x, "http://a/22", CrawlFrontier.DISALLOWED);
        Check.due("other path", Check.submit(x, "http://d/y"), 5);
        Check.due("shorter path", Check.submit(x, "http://d"), 6);
        Check.due("other case", Check.submit(x, "http://d/Z"), 7);
        Check.due("other host", Check.submit(x, "http://e/z"), 8);
        // The last of eight rules counts as the first does.
        CrawlFrontier full = Made.withRules(8);
        for (int i = 0; i < 8; i++) {
            Check.submitRefused(full, "http://a/" + i, CrawlFrontier.DISALLOWED);
        }
        Check.due("none of the eight", Check.submit(full, "http://a/8"), 0);
    }

    private static void fullList() {
        for (int max = 8; max <= 25; max++) {
            CrawlFrontier x = Made.withUrls(max, max - 1);
            Check.due("the last of " + max, Check.submit(x, Made.shortest(max - 1)), max - 1);
            Check.submitRefused(x, Made.shortest(max), CrawlFrontier.FULL);
        }
        CrawlFrontier blocked = Made.withUrls(8, 8);
        Check.disallow(blocked, "http://a");
        blocked.tick(64);
        Check.submitRefused(blocked, "http://b/x", CrawlFrontier.FULL);
    }

    private static void fullPool() {
        for (int length = 10; length <= 48; length++) {
            CrawlFrontier exact = Made.withUrlChars(256 - length);
            int next = exact.count(CrawlFrontier.COUNT_URLS);
            Check.due("just fits with " + length, Check.submit(exact, Made.text(length, 'Z')), next);
            Check.due("chars", exact.count(CrawlFrontier.COUNT_URL_CHARS), 256);
            Check.due("text", Check.text(exact, CrawlFrontier.KIND_URL, next), Made.text(length, 'Z'));
            Check.submitRefused(Made.withUrlChars(257 - length), Made.text(length, 'Z'), CrawlFrontier.FULL);
        }
        // The canonical length counts, not that of what was typed.
        Check.due("shortened", Check.submit(Made.withUrlChars(246), "HTTP://A:80/x/../%5A#fragment"), 6);
        String long48 = "http://a?" + "x".repeat(39);
        Check.due("lengthened", Check.submit(Made.withUrlChars(207), long48), 5);
        Check.submitRefused(Made.withUrlChars(208), long48, CrawlFrontier.FULL);
    }

    private static void noHostRoom() {
        CrawlFrontier seven = Made.withHosts(7);
        Check.due("the eighth", Check.submit(seven, "http://h7"), 0);
        Check.submitRefused(seven, "http://h8", CrawlFrontier.NO_HOST_ROOM);
        CrawlFrontier eight = Made.withHosts(8);
        String[] unknown = {"http://h8", "http://h", "http://h00", "http://0h", "https://h7."};
        for (String text : unknown) {
            Check.submitRefused(eight, text, CrawlFrontier.NO_HOST_ROOM);
        }
        for (int i = 0; i < 8; i++) {
            Check.due("a known one", Check.submit(eight, "http://H" + i), i);
            Check.due("its host", Check.host(eight, i), i);
        }
    }

    // One object on which each of the five answers is due for a text of its own.
    private static void onlyOneApplies() {
        CrawlFrontier x = Made.withUrls(9, 8);
        Check.disallow(x, "http://a/no");
        Check.submitRefused(x, "http://a/no:%", CrawlFrontier.BAD_URL);
        Check.submitRefused(x, "http://a", CrawlFrontier.DUPLICATE);
        Check.submitRefused(x, "http://a/no", CrawlFrontier.DISALLOWED);
        Check.submitRefused(x, "http://new", CrawlFrontier.NO_HOST_ROOM);
        Check.due("none of them", Check.submit(x, "http://a/1"), 8);
        Check.submitRefused(x, "http://a/2", CrawlFrontier.FULL);
    }

    private static void order() {
        // 1 before all others.
        CrawlFrontier all = Made.withUrls(8, 8);
        Check.disallow(all, "http://a");
        Check.submitRefused(all, "http://a/%", CrawlFrontier.BAD_URL);
        Check.submitRefused(all, "http://new:", CrawlFrontier.BAD_URL);
        Check.submitRefused(all, "", CrawlFrontier.BAD_URL);
        // 2 before 3, before 4.
        Check.submitRefused(all, "http://a/", CrawlFrontier.DUPLICATE);
        Check.submitRefused(all, "http://b/", CrawlFrontier.DUPLICATE);
        Check.submitRefused(Made.withUrlChars(256), Made.text(48, 'p'), CrawlFrontier.DUPLICATE);
        CrawlFrontier blocked = Made.busy();
        Check.submitRefused(blocked, "http://a/2", CrawlFrontier.DUPLICATE);
        // 3 before 4, for the list and for the pool.
        Check.submitRefused(all, "http://a/x", CrawlFrontier.DISALLOWED);
        CrawlFrontier pool = Made.withUrlChars(256);
        Check.disallow(pool, "http://a/Z");
        Check.submitRefused(pool, "http://a/Z", CrawlFrontier.DISALLOWED);
        // 4 before 5, for the list and for the pool.
        Check.submitRefused(all, "http://new", CrawlFrontier.FULL);
        for (int i = 1; i < 8; i++) {
            Check.setDelay(pool, "http://h" + i, 2);
        }
        Check.submitRefused(pool, "http://new", CrawlFrontier.FULL);
    }

    private static void refusalChangesNothing() {
        CrawlFrontier x = Made.busy();
        Check.submitRefused(x, "http://new/%", CrawlFrontier.BAD_URL);
        Check.submitRefused(x, "http://new?%4", CrawlFrontier.BAD_URL);
        Check.submitRefused(x, "http://a/1", CrawlFrontier.DUPLICATE);
        Check.submitRefused(x, "http://d/z", CrawlFrontier.DISALLOWED);
        CrawlFrontier list = new CrawlFrontier(8, 1);
        for (int i = 0; i < 8; i++) {
            Check.submit(list, "http://a/" + i);
        }
        Check.submitRefused(list, "http://new", CrawlFrontier.FULL);
        Check.submitRefused(Made.withUrlChars(250), "http://new", CrawlFrontier.FULL);
        Check.submitRefused(Made.withHosts(8), "http://new", CrawlFrontier.NO_HOST_ROOM);
    }

    private static void hostCreated() {
        CrawlFrontier x = Made.busy();
        Check.submit(x, "http://New-1.x:8/p");
        Check.due("name", Check.text(x, CrawlFrontier.KIND_HOST, 4), "new-1.x");
        Check.due("its url's host", Check.host(x, 5), 4);
        Check.submit(x, "https://NEW-1.X/q");
        Check.due("the same", Check.host(x, 6), 4);
        Check.submit(x, "http://d/q");
        Check.due("that of a rule", Check.host(x, 7), 3);
        Check.due("hosts", x.count(CrawlFrontier.COUNT_HOSTS), 5);
    }

    private static void hostsGrow() {
        CrawlFrontier x = new CrawlFrontier(32, 1);
        for (int i = 0; i < 8; i++) {
            Check.submit(x, "http://h" + i + "/1");
            Check.due("a new host", x.count(CrawlFrontier.COUNT_HOSTS), i + 1);
            Check.submit(x, "http://h" + i + "/2");
            Check.due("a known host", x.count(CrawlFrontier.COUNT_HOSTS), i + 1);
        }
    }

    private static void appended() {
        CrawlFrontier x = Made.busy();
        String before = Check.urls(x);
        Check.due("id", Check.submit(x, "http://b/2"), 5);
        Check.due("urls", Check.urls(x), before + "\n  kind 0 http://b/2 1 1 -1 -1 -1 -1 -1");
        Check.due("id", Check.submit(x, "http://e"), 6);
        Check.due("urls", Check.urls(x), before + "\n  kind 0 http://b/2 1 1 -1 -1 -1 -1 -1"
                + "\n  kind 0 http://e/ 1 4 -1 -1 -1 -1 -1");
    }

    private static void answersTheId() {
        for (int max = 8; max <= 26; max++) {
            CrawlFrontier x = new CrawlFrontier(max, 1);
            for (int i = 0; i < max; i++) {
                Check.due("id", Check.submit(x, Made.shortest(i)), i);
                Check.due("a refused one takes no id", Check.submit(x, Made.shortest(i)), CrawlFrontier.DUPLICATE);
            }
        }
    }

    private static void countsGrow() {
        CrawlFrontier x = Made.busy();
        for (int i = 1; i <= 7; i++) {
            Check.submit(x, "http://b/x" + i);
            Check.due("urls", x.count(CrawlFrontier.COUNT_URLS), 5 + i);
            Check.due("queued", x.count(CrawlFrontier.COUNT_QUEUED), 2 + i);
            Check.due("dispatched", x.count(CrawlFrontier.COUNT_DISPATCHED), 2);
            Check.due("blocked", x.count(CrawlFrontier.COUNT_BLOCKED), 1);
        }
    }

    private static void charsGrow() {
        String[] texts = {"http://a", "HTTP://A:80/x/../%7e#f", "https://a:00443?", "http://a?" + "x".repeat(39),
            "http://a:00008/"};
        int[] lengths = {9, 10, 11, 49, 11};
        CrawlFrontier x = new CrawlFrontier(8, 1);
        int chars = 0;
        for (int i = 0; i < texts.length; i++) {
            Check.submit(x, texts[i]);
            chars += lengths[i];
            Check.due("chars after " + texts[i], x.count(CrawlFrontier.COUNT_URL_CHARS), chars);
        }
    }

    private static void queueGrows() {
        CrawlFrontier x = Made.busy();
        int[] queued = {1, 0, 1, 0};
        String[] names = {"a", "b", "c", "d"};
        for (int host = 0; host < 4; host++) {
            Check.due("before", Check.queued(x, host), queued[host]);
            Check.submit(x, "http://" + names[host] + "/new");
            Check.due("after", Check.queued(x, host), queued[host] + 1);
        }
        Check.submit(x, "http://e/new");
        Check.due("of a new host", Check.queued(x, 4), 1);
        Check.due("of the others", Check.queued(x, 0) + Check.queued(x, 1) + Check.queued(x, 2) + Check.queued(x, 3), 6);
    }

    private static void othersStay() {
        CrawlFrontier x = Made.busy();
        String urls = Check.urls(x);
        String hosts = Check.hosts(x);
        String rules = Check.rules(x);
        Check.submit(x, "http://e/new");
        Check.due("clock", x.count(CrawlFrontier.COUNT_TIME), 2);
        Check.due("rules", Check.rules(x), rules);
        Check.due("urls", Check.urls(x).substring(0, urls.length()), urls);
        Check.due("hosts", Check.hosts(x).substring(0, hosts.length()), hosts);
        Check.submit(x, "http://b/new");
        Check.due("clock", x.count(CrawlFrontier.COUNT_TIME), 2);
        Check.due("rules", Check.rules(x), rules);
        Check.due("urls", Check.urls(x).substring(0, urls.length()), urls);
        Check.due("delay", Check.delay(x, 1), 9);
        Check.due("next", Check.next(x, 1), 10);
        Check.due("sent", Check.sent(x, 1), 1);
    }
}
