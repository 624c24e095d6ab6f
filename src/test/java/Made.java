/** Texts and objects that stand at an edge, or in the midst of things, for tests to begin with. */
final class Made {
    private Made() {
    }

    /** A canonical text of host a, 10 or more characters long. */
    static String text(int length, char mark) {
        StringBuilder text = new StringBuilder("http://a/").append(mark);
        while (text.length() < length) {
            text.append('.').append(mark);
        }
        return text.substring(0, length);
    }

    /** A text whose path-and-query is 1 to 40 characters long, all of them the mark but the first. */
    static String prefix(int length, char mark) {
        return "http://a/" + String.valueOf(mark).repeat(length - 1);
    }

    /** The shortest texts there are, of eight hosts: with 9 and 10 characters the pool holds 26 of them. */
    static String shortest(int i) {
        return i < 8 ? "http://" + (char) ('a' + i) : "http://a/" + (char) ('a' + i);
    }

    static CrawlFrontier withUrls(int maxUrls, int urls) {
        CrawlFrontier x = new CrawlFrontier(maxUrls, 1);
        for (int i = 0; i < urls; i++) {
            Check.due("submit " + i + " of " + maxUrls, Check.submit(x, shortest(i)), i);
        }
        return x;
    }

    /** 10 or more characters in the URL pool, all of host a. */
    static CrawlFrontier withUrlChars(int chars) {
        CrawlFrontier x = new CrawlFrontier(32, 1);
        int left = chars;
        for (char mark = 'p'; left > 0; mark++) {
            int length = Math.min(48, left);
            if (left > length && left < length + 10) {
                length -= 10;
            }
            Check.due("submit of " + length, Check.submit(x, text(length, mark)), mark - 'p');
            left -= length;
        }
        Check.due("url chars", x.count(CrawlFrontier.COUNT_URL_CHARS), chars);
        return x;
    }

    /** Hosts h0, h1, .. without URLs and rules. */
    static CrawlFrontier withHosts(int hosts) {
        CrawlFrontier x = new CrawlFrontier(32, 1);
        for (int i = 0; i < hosts; i++) {
            Check.due("setDelay " + i, Check.setDelay(x, "http://h" + i, 2), i);
        }
        return x;
    }

    /** Rules /0, /1, .. of host a. */
    static CrawlFrontier withRules(int rules) {
        CrawlFrontier x = new CrawlFrontier(32, 1);
        for (int i = 0; i < rules; i++) {
            Check.due("disallow " + i, Check.disallow(x, "http://a/" + i), 0);
        }
        return x;
    }

    static CrawlFrontier withRuleChars(int chars) {
        CrawlFrontier x = new CrawlFrontier(32, 1);
        int left = chars;
        for (char mark = 'p'; left > 0; mark++) {
            int length = Math.min(40, left);
            Check.due("disallow of " + length, Check.disallow(x, prefix(length, mark)), 0);
            left -= length;
        }
        Check.due("rule chars", x.count(CrawlFrontier.COUNT_RULE_CHARS), chars);
        return x;
    }

    /** URLs in every state, hosts with and without them, rules, and a clock that has moved. */
    static CrawlFrontier busy() {
        CrawlFrontier x = new CrawlFrontier(12, 3);
        Check.submit(x, "http://a/1");
        Check.submit(x, "http://a/2");
        Check.submit(x, "http://a/3");
        Check.submit(x, "http://b/1");
        Check.submit(x, "https://c:81/x?y");
        Check.setDelay(x, "http://b", 9);
        Check.disallow(x, "http://a/2");
        Check.disallow(x, "http://d/z");
        x.tick(2);
        Check.due("busy", Check.everything(x), "counts 5 4 2 2 2 2 1 56 4 12 3"
                + "\n  kind 0 http://a/1 2 0 0 -1 -1 -1 -1"
                + "\n  kind 0 http://a/2 3 0 -1 -1 -1 -1 -1"
                + "\n  kind 0 http://a/3 1 0 -1 -1 -1 -1 -1"
                + "\n  kind 0 http://b/1 2 1 1 -1 -1 -1 -1"
                + "\n  kind 0 https://c:81/x?y 1 2 -1 -1 -1 -1 -1"
                + "\n  kind 1 a -1 -1 -1 1 3 3 1"
                + "\n  kind 1 b -1 -1 -1 0 9 10 1"
                + "\n  kind 1 c -1 -1 -1 1 3 0 0"
                + "\n  kind 1 d -1 -1 -1 0 3 0 0"
                + "\n  kind 2 /2 -1 0 -1 -1 -1 -1 -1"
                + "\n  kind 2 /z -1 3 -1 -1 -1 -1 -1"
                + "\n  buffer ");
        return x;
    }
}
