/** Promise 5: each sentence has a test of its own. */
public final class DisallowEdgesTest {
    public static void main(String[] args) {
        refusals();
        rules();
        blocking();
        Check.end();
    }

    private static void refusals() {
        Check.sentence("`disallow()` canonicalises the buffer and empties it, whatever it answers.",
                DisallowEdgesTest::empties);
        Check.sentence("The buffer text is malformed: `BAD_URL`.", DisallowEdgesTest::malformed);
        Check.sentence("A rule with the same host name and the same prefix exists: `DUPLICATE`.",
                DisallowEdgesTest::duplicate);
        Check.sentence("Either there are 8 rules,", DisallowEdgesTest::fullList);
        Check.sentence("or `COUNT_RULE_CHARS` + prefix length would exceed 128: `FULL`.", DisallowEdgesTest::fullPool);
        Check.sentence("No host has that name and there are 8 hosts: `NO_HOST_ROOM`.", DisallowEdgesTest::noHostRoom);
        Check.sentence("It makes these tests in this order:", DisallowEdgesTest::order);
        Check.sentence("On a refusal nothing except the buffer changes.", DisallowEdgesTest::refusalChangesNothing);
    }

    private static void rules() {
        Check.sentence("its host name;", DisallowEdgesTest::hostName);
        Check.sentence("its path-and-query, as the prefix.", DisallowEdgesTest::prefix);
        Check.sentence("The scheme, the port and the fragment of the buffer play no part in the rule beyond syntax (a"
                + " bad scheme or port is still `BAD_URL`).", DisallowEdgesTest::noPart);
        Check.sentence("The host is created if none has that name.", DisallowEdgesTest::hostCreated);
        Check.sentence("`COUNT_HOSTS` grows by 1 if a host was created.", DisallowEdgesTest::hostsGrow);
        Check.sentence("The rule is appended with the next id (the previous rule count).",
                DisallowEdgesTest::appended);
        Check.sentence("`COUNT_RULE_CHARS` grows by the prefix length.", DisallowEdgesTest::charsGrow);
    }

    private static void blocking() {
        Check.sentence("Every URL in `STATE_QUEUED` that matches this rule becomes `STATE_BLOCKED`.",
                DisallowEdgesTest::blocks);
        Check.sentence("It stays in the list.", DisallowEdgesTest::staysInTheList);
        Check.sentence("Its text still counts for `DUPLICATE` and for the URL pool.", DisallowEdgesTest::textCounts);
        Check.sentence("Its host and time are unchanged.", DisallowEdgesTest::hostAndTimeStay);
        Check.sentence("The answer is the number of URLs so blocked. This is 0 or more; 0 is a success, not a refusal.",
                DisallowEdgesTest::answersTheNumber);
        Check.sentence("`COUNT_QUEUED` falls and `COUNT_BLOCKED` grows by that number, and each affected host's"
                + " `F_QUEUED` falls accordingly.", DisallowEdgesTest::countsMove);
        Check.sentence("URLs that are already dispatched or already blocked;", DisallowEdgesTest::dispatchedStays);
        Check.sentence("URLs that do not match;", DisallowEdgesTest::othersStay);
        Check.sentence("the clock, the delays, next-allowed times and dispatch counts of hosts that already existed, and"
                + " the earlier rules.", DisallowEdgesTest::restStays);
        Check.sentence("A blocked URL never returns to `STATE_QUEUED`.", DisallowEdgesTest::staysBlocked);
    }

    private static void empties() {
        CrawlFrontier x = Made.busy();
        String[] texts = {"http://a/3", "http://e/1", "http://e/1", "bad", ""};
        int[] answers = {1, 0, CrawlFrontier.DUPLICATE, CrawlFrontier.BAD_URL, CrawlFrontier.BAD_URL};
        for (int i = 0; i < texts.length; i++) {
            Check.type(x, texts[i]);
            Check.due("disallow of " + texts[i], x.disallow(), answers[i]);
            Check.due("buffer", Check.buffer(x), "");
            Check.due("again", x.disallow(), CrawlFrontier.BAD_URL);
        }
    }

    private static void malformed() {
        String[] texts = {"", "http", "/p", "http:/a", "ftp://a", "http://", "http://a_b", "http://a:", "http://a:65536",
            "http://a/%4", "http://a?%", "http://abcdefghijklmnopq"};
        for (String text : texts) {
            Check.disallowRefused(new CrawlFrontier(8, 1), text, CrawlFrontier.BAD_URL);
            Check.disallowRefused(Made.busy(), text, CrawlFrontier.BAD_URL);
        }
    }

    private static void duplicate() {
        CrawlFrontier x = Made.busy();
        Check.disallowRefused(x, "http://a/2", CrawlFrontier.DUPLICATE);
        Check.disallowRefused(x, "https://A:9/x/../%32#f", CrawlFrontier.DUPLICATE);
        Check.disallowRefused(x, "http://d/z", CrawlFrontier.DUPLICATE);
        String[] others = {"http://b/2", "http://a/z", "http://a/22", "http://a?2", "http://d/Z", "http://d/z?"};
        for (int i = 0; i < others.length; i++) {
            Check.due("another rule " + others[i], Check.disallow(x, others[i]), 0);
            Check.disallowRefused(x, others[i], CrawlFrontier.DUPLICATE);
        }
        // A shorter prefix that an earlier rule begins with is another rule.
        CrawlFrontier y = new CrawlFrontier(8, 1);
        Check.disallow(y, "http://a/pq");
        Check.due("shorter", Check.disallow(y, "http://a/p"), 0);
        Check.due("shortest", Check.disallow(y, "http://a"), 0);
        Check.due("longer", Check.disallow(y, "http://a/pqr"), 0);
        Check.due("rules", y.count(CrawlFrontier.COUNT_RULES), 4);
    }

    private static void fullList() {
        CrawlFrontier x = Made.withRules(7);
        Check.due("the eighth", Check.disallow(x, "http://a/7"), 0);
        Check.disallowRefused(x, "http://a/8", CrawlFrontier.FULL);
        Check.disallowRefused(x, "http://a", CrawlFrontier.FULL);
    }

    private static void fullPool() {
        for (int length = 1; length <= 40; length++) {
            CrawlFrontier exact = Made.withRuleChars(128 - length);
            int next = exact.count(CrawlFrontier.COUNT_RULES);
            Check.due("just fits with " + length, Check.disallow(exact, Made.prefix(length, 'Z')), 0);
            Check.due("chars", exact.count(CrawlFrontier.COUNT_RULE_CHARS), 128);
            Check.due("text", Check.text(exact, CrawlFrontier.KIND_RULE, next), Made.prefix(length, 'Z').substring(8));
            CrawlFrontier over = Made.withRuleChars(129 - length);
            Check.disallowRefused(over, Made.prefix(length, 'Z'), CrawlFrontier.FULL);
        }
        // An absent path counts as one more, and what the rules drop counts for nothing.
        Check.due("41 fit", Check.disallow(Made.withRuleChars(87), "http://a?" + "Z".repeat(39)), 0);
        Check.disallowRefused(Made.withRuleChars(88), "http://a?" + "Z".repeat(39), CrawlFrontier.FULL);
        Check.due("shortened", Check.disallow(Made.withRuleChars(126), "https://A:80/x/../%5A#fragment"), 0);
    }

    private static void noHostRoom() {
        CrawlFrontier seven = Made.withHosts(7);
        Check.due("the eighth", Check.disallow(seven, "http://h7"), 0);
        Check.disallowRefused(seven, "http://h8", CrawlFrontier.NO_HOST_ROOM);
        CrawlFrontier eight = Made.withHosts(8);
        String[] unknown = {"http://h8", "http://h", "http://h00", "http://0h", "https://h7."};
        for (String text : unknown) {
            Check.disallowRefused(eight, text, CrawlFrontier.NO_HOST_ROOM);
        }
        for (int i = 0; i < 8; i++) {
            Check.due("a known one", Check.disallow(eight, "http://H" + i), 0);
            Check.due("its host", eight.info(CrawlFrontier.KIND_RULE, i, CrawlFrontier.F_HOST), i);
        }
    }

    private static void order() {
        CrawlFrontier rules = Made.withRules(8);
        for (int i = 1; i < 8; i++) {
            Check.setDelay(rules, "http://h" + i, 2);
        }
        CrawlFrontier pool = Made.withRuleChars(128);
        for (int i = 1; i < 8; i++) {
            Check.setDelay(pool, "http://h" + i, 2);
        }
        // 1 before all others.
        Check.disallowRefused(rules, "http://a/%", CrawlFrontier.BAD_URL);
        Check.disallowRefused(pool, "http://new:", CrawlFrontier.BAD_URL);
        Check.disallowRefused(Made.withHosts(8), "http://new?%", CrawlFrontier.BAD_URL);
        // 2 before 3, for the list and for the pool.
        Check.disallowRefused(rules, "http://a/7", CrawlFrontier.DUPLICATE);
        Check.disallowRefused(pool, Made.prefix(40, 'p'), CrawlFrontier.DUPLICATE);
        // 3 before 4, for the list and for the pool.
        Check.disallowRefused(rules, "http://new", CrawlFrontier.FULL);
        Check.disallowRefused(pool, "http://new", CrawlFrontier.FULL);
    }

    private static void refusalChangesNothing() {
        CrawlFrontier x = Made.busy();
        Check.disallowRefused(x, "http://new/%", CrawlFrontier.BAD_URL);
        Check.disallowRefused(x, "http://a?%4", CrawlFrontier.BAD_URL);
        Check.disallowRefused(x, "http://a/2", CrawlFrontier.DUPLICATE);
        // A full list or pool blocks nothing and makes no host.
        CrawlFrontier list = Made.withRules(8);
        Check.submit(list, "http://a/x");
        Check.disallowRefused(list, "http://a/x", CrawlFrontier.FULL);
        Check.disallowRefused(list, "http://new", CrawlFrontier.FULL);
        CrawlFrontier pool = Made.withRuleChars(127);
        Check.submit(pool, "http://a/x");
        Check.disallowRefused(pool, "http://a/x", CrawlFrontier.FULL);
        Check.disallowRefused(pool, "http://new/x", CrawlFrontier.FULL);
        Check.disallowRefused(Made.withHosts(8), "http://new", CrawlFrontier.NO_HOST_ROOM);
    }

    private static void hostName() {
        CrawlFrontier x = Made.busy();
        String[] texts = {"http://D/1", "http://c:9/1", "https://b/1", "http://A/1"};
        for (int i = 0; i < texts.length; i++) {
            Check.disallow(x, texts[i]);
            Check.due("host of " + texts[i], x.info(CrawlFrontier.KIND_RULE, 2 + i, CrawlFrontier.F_HOST), 3 - i);
        }
    }

    private static void prefix() {
        String[] texts = {"http://a", "http://a?", "http://a/b/./c/..", "http://a/%7e?%2f#f", "http://a/B",
            "http://a?" + "x".repeat(39)};
        String[] prefixes = {"/", "/?", "/b/", "/~?%2F", "/B", "/?" + "x".repeat(39)};
        for (int i = 0; i < texts.length; i++) {
            CrawlFrontier x = new CrawlFrontier(8, 1);
            Check.disallow(x, texts[i]);
            Check.due("prefix of " + texts[i], Check.text(x, CrawlFrontier.KIND_RULE, 0), prefixes[i]);
        }
    }

    private static void noPart() {
        CrawlFrontier x = new CrawlFrontier(8, 1);
        Check.submit(x, "http://a/p");
        Check.submit(x, "https://a/p");
        Check.submit(x, "http://a:81/p");
        Check.due("disallow", Check.disallow(x, "https://a:82/p#f"), 3);
        Check.due("rule", Check.rules(x), "\n  kind 2 /p -1 0 -1 -1 -1 -1 -1");
        String[] same = {"http://a/p", "https://a/p", "http://a:0/p", "http://a:65535/p", "http://a/p#%"};
        for (String text : same) {
            Check.disallowRefused(x, text, CrawlFrontier.DUPLICATE);
        }
        String[] bad = {"ftp://a/p", "httpx://a/p", "://a/p", "http://a:/p", "http://a:65536/p", "http://a:000080/p",
            "http://a:x/p"};
        for (String text : bad) {
            Check.disallowRefused(x, text, CrawlFrontier.BAD_URL);
        }
    }

    private static void hostCreated() {
        CrawlFrontier x = Made.busy();
        Check.disallow(x, "http://New-1.x:8/p");
        Check.due("hosts", x.count(CrawlFrontier.COUNT_HOSTS), 5);
        Check.due("name", Check.text(x, CrawlFrontier.KIND_HOST, 4), "new-1.x");
        Check.due("the rule's host", x.info(CrawlFrontier.KIND_RULE, 2, CrawlFrontier.F_HOST), 4);
        Check.disallow(x, "https://NEW-1.X/q");
        Check.due("the same", x.info(CrawlFrontier.KIND_RULE, 3, CrawlFrontier.F_HOST), 4);
        Check.disallow(x, "http://b/q");
        Check.due("that of a URL", x.info(CrawlFrontier.KIND_RULE, 4, CrawlFrontier.F_HOST), 1);
        Check.due("hosts", x.count(CrawlFrontier.COUNT_HOSTS), 5);
    }

    private static void hostsGrow() {
        CrawlFrontier x = new CrawlFrontier(32, 1);
        for (int i = 0; i < 4; i++) {
            Check.disallow(x, "http://h" + i + "/1");
            Check.due("a new host", x.count(CrawlFrontier.COUNT_HOSTS), i + 1);
            Check.disallow(x, "http://h" + i + "/2");
            Check.due("a known host", x.count(CrawlFrontier.COUNT_HOSTS), i + 1);
        }
        CrawlFrontier y = new CrawlFrontier(32, 1);
        for (int i = 0; i < 8; i++) {
            Check.disallow(y, "http://h" + i);
            Check.due("a new host", y.count(CrawlFrontier.COUNT_HOSTS), i + 1);
        }
    }

    private static void appended() {
        CrawlFrontier x = Made.busy();
        String due = Check.rules(x);
        for (int i = 2; i < 8; i++) {
            Check.disallow(x, "http://b/" + i);
            due += "\n  kind 2 /" + i + " -1 1 -1 -1 -1 -1 -1";
            Check.due("rules", Check.rules(x), due);
            Check.due("count", x.count(CrawlFrontier.COUNT_RULES), i + 1);
            Check.disallowRefused(x, "http://b/" + i, CrawlFrontier.DUPLICATE);
        }
    }

    private static void charsGrow() {
        String[] texts = {"http://a", "HTTPS://A:99/x/../%7e#f", "http://a?", "http://a?" + "x".repeat(39), "http://b"};
        int[] lengths = {1, 2, 2, 41, 1};
        CrawlFrontier x = new CrawlFrontier(8, 1);
        int chars = 0;
        for (int i = 0; i < texts.length; i++) {
            Check.disallow(x, texts[i]);
            chars += lengths[i];
            Check.due("chars after " + texts[i], x.count(CrawlFrontier.COUNT_RULE_CHARS), chars);
        }
    }

    // Eight URLs of host a, of which two to five match a rule for /p.
    private static CrawlFrontier eight() {
        CrawlFrontier x = new CrawlFrontier(32, 4);
        String[] urls = {"http://a/", "http://a/o", "http://a/p", "http://a/p?q", "https://a/pp", "http://a:8/p/x",
            "http://a/P", "http://b/p"};
        for (int i = 0; i < urls.length; i++) {
            Check.due("submit of " + urls[i], Check.submit(x, urls[i]), i);
        }
        return x;
    }

    private static void states(CrawlFrontier x, int... due) {
        for (int url = 0; url < due.length; url++) {
            Check.due("state of " + url, Check.state(x, url), due[url]);
        }
    }

    private static void blocks() {
        CrawlFrontier x = eight();
        Check.disallow(x, "http://a/p");
        states(x, 1, 1, 3, 3, 3, 3, 1, 1);
        Check.disallow(x, "http://a");
        states(x, 3, 3, 3, 3, 3, 3, 3, 1);
        // The first and the last of a list that is full.
        CrawlFrontier full = Made.withUrls(26, 26);
        Check.due("all of host a", Check.disallow(full, "http://a"), 19);
        Check.due("the first", Check.state(full, 0), CrawlFrontier.STATE_BLOCKED);
        Check.due("the last", Check.state(full, 25), CrawlFrontier.STATE_BLOCKED);
    }

    private static void staysInTheList() {
        CrawlFrontier x = eight();
        Check.disallow(x, "http://a/p");
        Check.due("urls", x.count(CrawlFrontier.COUNT_URLS), 8);
        Check.due("text", Check.text(x, CrawlFrontier.KIND_URL, 4), "https://a/pp");
        Check.due("next id", Check.submit(x, "http://c"), 8);
    }

    private static void textCounts() {
        CrawlFrontier x = eight();
        int chars = x.count(CrawlFrontier.COUNT_URL_CHARS);
        Check.disallow(x, "http://a/p");
        Check.submitRefused(x, "http://a/p", CrawlFrontier.DUPLICATE);
        Check.submitRefused(x, "https://a/pp", CrawlFrontier.DUPLICATE);
        Check.due("chars", x.count(CrawlFrontier.COUNT_URL_CHARS), chars);
        CrawlFrontier full = Made.withUrlChars(248);
        Check.disallow(full, "http://a");
        Check.due("all blocked", full.count(CrawlFrontier.COUNT_QUEUED), 0);
        Check.submitRefused(full, "http://b", CrawlFrontier.FULL);
    }

    private static void hostAndTimeStay() {
        CrawlFrontier x = eight();
        x.tick(5);
        Check.disallow(x, "http://a/p");
        for (int url = 2; url < 6; url++) {
            Check.due("state", Check.state(x, url), CrawlFrontier.STATE_BLOCKED);
            Check.due("host", Check.host(x, url), 0);
            Check.due("time", Check.time(x, url), -1);
        }
        x.tick(64);
        for (int url = 2; url < 6; url++) {
            Check.due("time", Check.time(x, url), -1);
        }
    }

    private static void answersTheNumber() {
        Check.due("none at all", Check.disallow(new CrawlFrontier(8, 1), "http://a"), 0);
        Check.due("none", Check.disallow(eight(), "http://a/x"), 0);
        Check.due("one", Check.disallow(eight(), "http://a/p?"), 1);
        Check.due("one", Check.disallow(eight(), "http://b"), 1);
        Check.due("four", Check.disallow(eight(), "http://a/p"), 4);
        Check.due("seven", Check.disallow(eight(), "http://a"), 7);
        CrawlFrontier x = eight();
        Check.due("four", Check.disallow(x, "http://a/p"), 4);
        Check.due("none again", Check.disallow(x, "http://a/p?"), 0);
        Check.due("it is a rule all the same", x.count(CrawlFrontier.COUNT_RULES), 2);
        Check.due("the other three", Check.disallow(x, "http://a"), 3);
    }

    private static void countsMove() {
        CrawlFrontier x = eight();
        String[] rules = {"http://a/none", "http://a/p?q", "http://a/p", "http://b", "http://a"};
        int[] queuedOfA = {7, 6, 3, 3, 0};
        int[] queuedOfB = {1, 1, 1, 0, 0};
        for (int i = 0; i < rules.length; i++) {
            Check.disallow(x, rules[i]);
            Check.due("queued of a", Check.queued(x, 0), queuedOfA[i]);
            Check.due("queued of b", Check.queued(x, 1), queuedOfB[i]);
            Check.due("queued", x.count(CrawlFrontier.COUNT_QUEUED), queuedOfA[i] + queuedOfB[i]);
            Check.due("blocked", x.count(CrawlFrontier.COUNT_BLOCKED), 8 - queuedOfA[i] - queuedOfB[i]);
        }
    }

    private static void dispatchedStays() {
        CrawlFrontier x = Made.busy();
        Check.due("only the queued one", Check.disallow(x, "http://a"), 1);
        states(x, 2, 3, 3, 2, 1);
        Check.due("time", Check.time(x, 0), 0);
        Check.due("the dispatched one", Check.disallow(x, "http://b"), 0);
        states(x, 2, 3, 3, 2, 1);
        Check.due("time", Check.time(x, 3), 1);
        Check.due("dispatched", x.count(CrawlFrontier.COUNT_DISPATCHED), 2);
        Check.due("blocked", x.count(CrawlFrontier.COUNT_BLOCKED), 2);
    }

    private static void othersStay() {
        CrawlFrontier x = eight();
        String before = Check.urls(x);
        Check.disallow(x, "http://a/p/x/y");
        Check.disallow(x, "http://c");
        Check.disallow(x, "http://a/O");
        Check.due("urls", Check.urls(x), before);
        // A prefix longer than the path is not read on into the next text.
        Check.disallow(x, "http://a/ohttp");
        Check.due("urls", Check.urls(x), before);
    }

    private static void restStays() {
        CrawlFrontier x = Made.busy();
        String rules = Check.rules(x);
        Check.disallow(x, "http://a");
        Check.disallow(x, "http://b");
        Check.disallow(x, "http://e");
        Check.due("clock", x.count(CrawlFrontier.COUNT_TIME), 2);
        Check.due("hosts", Check.hosts(x), "\n  kind 1 a -1 -1 -1 0 3 3 1"
                + "\n  kind 1 b -1 -1 -1 0 9 10 1"
                + "\n  kind 1 c -1 -1 -1 1 3 0 0"
                + "\n  kind 1 d -1 -1 -1 0 3 0 0"
                + "\n  kind 1 e -1 -1 -1 0 3 0 0");
        Check.due("earlier rules", Check.rules(x).substring(0, rules.length()), rules);
    }

    private static void staysBlocked() {
        CrawlFrontier x = Made.busy();
        String[] texts = {"http://a/2", "http://a/1", "http://a", "http://a/4", "bad", "", "http://a/2"};
        for (String text : texts) {
            Check.submit(x, text);
            Check.due("state", Check.state(x, 1), CrawlFrontier.STATE_BLOCKED);
            Check.disallow(x, text);
            Check.due("state", Check.state(x, 1), CrawlFrontier.STATE_BLOCKED);
            Check.setDelay(x, text, 1);
            x.tick(64);
            Check.due("state", Check.state(x, 1), CrawlFrontier.STATE_BLOCKED);
        }
        Check.due("time", Check.time(x, 1), -1);
    }
}
