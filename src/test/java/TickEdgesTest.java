/** Promise 7: each sentence has a test of its own. */
public final class TickEdgesTest {
    public static void main(String[] args) {
        Check.sentence("`tick(n)` clamps n into 1..64: n <= 0 becomes 1 and n > 64 becomes 64.",
                TickEdgesTest::clamps);
        Check.sentence("It then performs n steps, one after another.", TickEdgesTest::oneAfterAnother);
        Check.sentence("The ready hosts are those with at least one URL in `STATE_QUEUED`", TickEdgesTest::needsQueued);
        Check.sentence("and next-allowed <= T.", TickEdgesTest::needsItsTime);
        Check.sentence("the one with the smallest next-allowed is chosen;", TickEdgesTest::earliestFirst);
        Check.sentence("on a tie, the one with the smallest host id is chosen.", TickEdgesTest::tie);
        Check.sentence("its `STATE_QUEUED` URL of smallest id becomes `STATE_DISPATCHED` with time T;",
                TickEdgesTest::smallestUrl);
        Check.sentence("the host's count of dispatches grows by 1;", TickEdgesTest::sentGrows);
        Check.sentence("its next-allowed becomes T + its delay.", TickEdgesTest::nextAllowed);
        Check.sentence("Then, in every step, whether or not a URL was dispatched, T becomes T + 1.",
                TickEdgesTest::clockSteps);
        Check.sentence("The answer is the number of URLs dispatched during this call, in 0..n.",
                TickEdgesTest::answersTheNumber);
        Check.sentence("The clock grows by exactly the clamped n.", TickEdgesTest::clockGrows);
        Check.sentence("the buffer, the rules, the set of hosts, host names and delays;", TickEdgesTest::restStays);
        Check.sentence("URL texts and host ids;", TickEdgesTest::textsStay);
        Check.sentence("every URL not dispatched in a step.", TickEdgesTest::otherUrlsStay);
        Check.sentence("Blocked URLs are never dispatched.", TickEdgesTest::blockedNever);
        Check.sentence("A dispatched URL keeps its time forever, so each URL is dispatched at most once.",
                TickEdgesTest::onlyOnce);
        Check.sentence("Behaviour once T or a next-allowed time would exceed `Integer.MAX_VALUE` is not promised.",
                TickEdgesTest::untilTheGreatestTime);
        Check.end();
    }

    private static final int[] GIVEN = {Integer.MIN_VALUE, Integer.MIN_VALUE + 1, -65536 + 2, -256 + 2, -64, -2, -1, 0, 1,
        2, 3, 32, 63, 64, 65, 66, 128, 256 + 2, 65536 + 2, Integer.MAX_VALUE - 1, Integer.MAX_VALUE};

    private static int clamped(int n) {
        return n <= 0 ? 1 : n > 64 ? 64 : n;
    }

    private static int clock(CrawlFrontier x) {
        return x.count(CrawlFrontier.COUNT_TIME);
    }

    private static void clamps() {
        for (int n : GIVEN) {
            CrawlFrontier x = new CrawlFrontier(8, 1);
            for (int i = 0; i < 3; i++) {
                Check.submit(x, "http://a/" + i);
            }
            Check.due("tick of " + n, x.tick(n), Math.min(3, clamped(n)));
            Check.due("clock after " + n, clock(x), clamped(n));
        }
    }

    private static void oneAfterAnother() {
        for (int n = 1; n <= 64; n++) {
            CrawlFrontier together = Made.busy();
            CrawlFrontier single = Made.busy();
            int sent = 0;
            for (int i = 0; i < n; i++) {
                sent += single.tick(1);
            }
            Check.due("tick of " + n, together.tick(n), sent);
            Check.due("state", Check.everything(together), Check.everything(single));
        }
        // At most one URL leaves in each step, however many hosts are ready.
        CrawlFrontier x = Made.withUrls(8, 8);
        for (int i = 0; i < 8; i++) {
            Check.due("one step", x.tick(1), 1);
            Check.due("dispatched", x.count(CrawlFrontier.COUNT_DISPATCHED), i + 1);
        }
        Check.due("none is left", x.tick(1), 0);
    }

    private static void needsQueued() {
        CrawlFrontier x = Made.withHosts(8);
        Check.due("hosts without URLs", x.tick(3), 0);
        Check.submit(x, "http://h7/1");
        Check.submit(x, "http://h6/1");
        Check.disallow(x, "http://h6");
        Check.due("one queued, one blocked", x.tick(1), 1);
        Check.due("time", Check.time(x, 0), 3);
        Check.due("one dispatched, one blocked", x.tick(64), 0);
        Check.due("next of h7", Check.next(x, 7), 5);
        Check.due("next of h6", Check.next(x, 6), 0);
        Check.due("next of h0", Check.next(x, 0), 0);
    }

    private static void needsItsTime() {
        for (int delay = 1; delay <= 16; delay++) {
            CrawlFrontier x = new CrawlFrontier(8, delay);
            Check.submit(x, "http://a/1");
            Check.submit(x, "http://a/2");
            Check.due("at 0", x.tick(1), 1);
            for (int t = 1; t < delay; t++) {
                Check.due("at " + t + " with next-allowed " + delay, x.tick(1), 0);
            }
            Check.due("at next-allowed", x.tick(1), 1);
            Check.due("time", Check.time(x, 1), delay);
        }
    }

    private static void earliestFirst() {
        CrawlFrontier x = new CrawlFrontier(16, 1);
        int[] delays = {9, 8, 7, 3, 5};
        for (int i = 0; i < 5; i++) {
            Check.setDelay(x, "http://h" + i, delays[i]);
            Check.submit(x, "http://h" + i + "/1");
        }
        Check.due("one of each", x.tick(20), 5);
        for (int i = 0; i < 5; i++) {
            Check.due("next of " + i, Check.next(x, i), i + delays[i]);
        }
        // The times are 9, 9, 9, 6, 9, and a new host has 0.
        for (int i = 0; i < 5; i++) {
            Check.submit(x, "http://h" + i + "/2");
        }
        Check.submit(x, "http://new");
        Check.due("all six", x.tick(6), 6);
        Check.due("the new one", Check.time(x, 10), 20);
        Check.due("then that of 6", Check.time(x, 8), 21);
        int[] rest = {5, 6, 7, 9};
        for (int i = 0; i < rest.length; i++) {
            Check.due("then those of 9", Check.time(x, rest[i]), 22 + i);
        }
    }

    // Next-allowed times that differ by one, with the later one on either side.
    private static void tie() {
        CrawlFrontier x = new CrawlFrontier(16, 8);
        for (int i = 7; i >= 0; i--) {
            Check.setDelay(x, "http://h" + i, 8);
        }
        for (int i = 0; i < 8; i++) {
            Check.submit(x, "http://h" + i);
        }
        Check.due("eight", x.tick(8), 8);
        for (int i = 0; i < 8; i++) {
            Check.due("time of h" + i, Check.time(x, i), 7 - i);
        }
        CrawlFrontier y = new CrawlFrontier(16, 1);
        Check.setDelay(y, "http://a", 5);
        Check.setDelay(y, "http://b", 4);
        Check.submit(y, "http://b/1");
        Check.submit(y, "http://a/1");
        Check.due("two", y.tick(9), 2);
        Check.due("next of a", Check.next(y, 0), 5);
        Check.due("next of b", Check.next(y, 1), 5);
        Check.submit(y, "http://b/2");
        Check.submit(y, "http://a/2");
        Check.due("one", y.tick(1), 1);
        Check.due("a", Check.time(y, 3), 9);
        Check.due("b", Check.time(y, 2), -1);
    }

    private static void smallestUrl() {
        CrawlFrontier x = new CrawlFrontier(16, 1);
        Check.submit(x, "http://b/0");
        for (int i = 1; i <= 5; i++) {
            Check.submit(x, "http://a/" + (6 - i));
        }
        Check.disallow(x, "http://b");
        Check.disallow(x, "http://a/4");
        x.tick(7);
        int[] times = {-1, 0, -1, 1, 2, 3};
        int[] states = {3, 2, 3, 2, 2, 2};
        for (int url = 0; url < times.length; url++) {
            Check.due("time of " + url, Check.time(x, url), times[url]);
            Check.due("state of " + url, Check.state(x, url), states[url]);
        }
        Check.submit(x, "http://a/9");
        Check.submit(x, "http://a/8");
        x.tick(1);
        Check.due("time of 6", Check.time(x, 6), 7);
        Check.due("time of 7", Check.time(x, 7), -1);
    }

    private static void sentGrows() {
        CrawlFrontier x = new CrawlFrontier(16, 1);
        for (int i = 0; i < 6; i++) {
            Check.submit(x, "http://a/" + i);
        }
        Check.submit(x, "http://b/0");
        for (int i = 0; i < 9; i++) {
            int a = Check.sent(x, 0);
            int b = Check.sent(x, 1);
            int sent = x.tick(1);
            Check.due("sent by both", Check.sent(x, 0) + Check.sent(x, 1), a + b + sent);
        }
        Check.due("sent by a", Check.sent(x, 0), 6);
        Check.due("sent by b", Check.sent(x, 1), 1);
    }

    private static void nextAllowed() {
        for (int delay = 1; delay <= 16; delay++) {
            CrawlFrontier x = new CrawlFrontier(8, 16);
            Check.setDelay(x, "http://a", delay);
            Check.submit(x, "http://a/1");
            x.tick(1);
            Check.due("next", Check.next(x, 0), delay);
            x.tick(30);
            Check.due("next while it waits", Check.next(x, 0), delay);
            Check.submit(x, "http://a/2");
            x.tick(1);
            // From the time of the dispatch, not from the time it was allowed.
            Check.due("next", Check.next(x, 0), 31 + delay);
        }
    }

    private static void clockSteps() {
        CrawlFrontier x = new CrawlFrontier(8, 3);
        for (int t = 0; t < 5; t++) {
            Check.due("nothing to send", x.tick(1), 0);
            Check.due("clock", clock(x), t + 1);
        }
        Check.submit(x, "http://a/1");
        Check.submit(x, "http://a/2");
        int[] sent = {1, 0, 0, 1, 0};
        for (int i = 0; i < sent.length; i++) {
            Check.due("sent at " + (5 + i), x.tick(1), sent[i]);
            Check.due("clock", clock(x), 6 + i);
        }
    }

    private static void answersTheNumber() {
        for (int n : GIVEN) {
            Check.due("of none", new CrawlFrontier(8, 1).tick(n), 0);
            CrawlFrontier x = Made.withUrls(26, 26);
            Check.due("of many", x.tick(n), Math.min(26, clamped(n)));
            Check.due("dispatched", x.count(CrawlFrontier.COUNT_DISPATCHED), Math.min(26, clamped(n)));
            Check.due("of this call alone", x.tick(64), 26 - Math.min(26, clamped(n)));
        }
        CrawlFrontier slow = new CrawlFrontier(8, 16);
        for (int i = 0; i < 8; i++) {
            Check.submit(slow, "http://a/" + i);
        }
        Check.due("at 0, 16, 32 and 48", slow.tick(64), 4);
        Check.due("at 64, 80 and 96", slow.tick(48), 3);
        Check.due("at 112", slow.tick(1), 1);
    }

    private static void clockGrows() {
        CrawlFrontier x = Made.busy();
        int due = 2;
        for (int n : GIVEN) {
            x.tick(n);
            due += clamped(n);
            Check.due("clock after " + n, clock(x), due);
        }
    }

    private static void restStays() {
        CrawlFrontier x = Made.busy();
        Check.type(x, "http://a/22");
        String rules = Check.rules(x);
        Check.due("tick", x.tick(64), 2);
        Check.due("buffer", Check.buffer(x), "http://a/22");
        Check.due("rules", Check.rules(x), rules);
        Check.due("hosts", x.count(CrawlFrontier.COUNT_HOSTS), 4);
        int[] delays = {3, 9, 3, 3};
        for (int host = 0; host < 4; host++) {
            Check.due("name", Check.text(x, CrawlFrontier.KIND_HOST, host), "" + "abcd".charAt(host));
            Check.due("delay", Check.delay(x, host), delays[host]);
        }
        Check.due("max", x.count(CrawlFrontier.COUNT_MAX_URLS), 12);
        Check.due("default delay", x.count(CrawlFrontier.COUNT_DEFAULT_DELAY), 3);
    }

    private static void textsStay() {
        CrawlFrontier x = Made.busy();
        String[] texts = {"http://a/1", "http://a/2", "http://a/3", "http://b/1", "https://c:81/x?y"};
        int[] hosts = {0, 0, 0, 1, 2};
        x.tick(64);
        Check.due("urls", x.count(CrawlFrontier.COUNT_URLS), 5);
        Check.due("chars", x.count(CrawlFrontier.COUNT_URL_CHARS), 56);
        for (int url = 0; url < 5; url++) {
            Check.due("text", Check.text(x, CrawlFrontier.KIND_URL, url), texts[url]);
            Check.due("host", Check.host(x, url), hosts[url]);
        }
    }

    private static void otherUrlsStay() {
        CrawlFrontier x = Made.busy();
        // At 2 host c is ready, at 3 host a, and then none.
        int[] sent = {4, 2};
        for (int url : sent) {
            String[] before = Check.urls(x).split("\n");
            Check.due("one step", x.tick(1), 1);
            String[] after = Check.urls(x).split("\n");
            for (int other = 0; other < 5; other++) {
                Check.due("url " + other + " stays", after[other + 1].equals(before[other + 1]) ? 1 : 0,
                        other == url ? 0 : 1);
            }
        }
        String before = Check.urls(x);
        Check.due("no step", x.tick(64), 0);
        Check.due("urls", Check.urls(x), before);
    }

    private static void blockedNever() {
        CrawlFrontier x = Made.withUrls(26, 26);
        Check.disallow(x, "http://a");
        Check.due("blocked", x.count(CrawlFrontier.COUNT_BLOCKED), 19);
        Check.due("the others", x.tick(64), 7);
        Check.due("none more", x.tick(64), 0);
        Check.due("blocked", x.count(CrawlFrontier.COUNT_BLOCKED), 19);
        Check.due("sent by a", Check.sent(x, 0), 0);
        Check.due("next of a", Check.next(x, 0), 0);
        Check.due("time of the first", Check.time(x, 0), -1);
        Check.due("time of the last", Check.time(x, 25), -1);
    }

    private static void onlyOnce() {
        CrawlFrontier x = Made.withUrls(16, 16);
        Check.due("all", x.tick(64), 16);
        String before = Check.urls(x);
        for (int i = 0; i < 10; i++) {
            Check.due("none again", x.tick(64), 0);
            Check.due("urls", Check.urls(x), before);
        }
        Check.setDelay(x, "http://a", 1);
        Check.disallow(x, "http://a");
        Check.submit(x, "http://b/");
        Check.due("none again", x.tick(64), 0);
        Check.due("urls", Check.urls(x), before);
    }

    // Up to that time it is promised; the whole way there is walked, so that nothing wraps before.
    private static void untilTheGreatestTime() {
        int greatest = Integer.MAX_VALUE;
        CrawlFrontier x = new CrawlFrontier(8, 16);
        for (int left = greatest - 32; left > 0; left -= 64) {
            x.tick(Math.min(64, left));
        }
        Check.due("clock", clock(x), greatest - 32);
        for (int i = 1; i <= 3; i++) {
            Check.submit(x, "http://a/" + i);
        }
        Check.due("one", x.tick(1), 1);
        Check.due("time", Check.time(x, 0), greatest - 32);
        Check.due("next", Check.next(x, 0), greatest - 16);
        Check.due("none yet", x.tick(15), 0);
        Check.due("another", x.tick(1), 1);
        Check.due("time", Check.time(x, 1), greatest - 16);
        Check.due("next", Check.next(x, 0), greatest);
        Check.due("none any more", x.tick(15), 0);
        Check.due("clock", clock(x), greatest);
        // Beyond it any answer will do, but no call throws.
        x.tick(64);
        Check.submit(x, "http://b/1");
        x.tick(64);
        Check.everything(x);
    }
}
