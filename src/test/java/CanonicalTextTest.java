/** The section "Canonical text": what submit, disallow and setDelay rest on. */
public final class CanonicalTextTest {
    public static void main(String[] args) {
        schemes();
        hosts();
        ports();
        pathsAndQueries();
        percent();
        dotSegments();
        lengths();
        Check.end();
    }

    private static void gives(String text, String canonical) {
        CrawlFrontier x = new CrawlFrontier(8, 1);
        Check.due("submit of " + text, Check.submit(x, text), 0);
        Check.due(text, Check.text(x, CrawlFrontier.KIND_URL, 0), canonical);
        int slash = canonical.indexOf('/', canonical.indexOf("//") + 2);
        Check.due("disallow of " + text, Check.disallow(x, text), 1);
        Check.due("rule of " + text, Check.text(x, CrawlFrontier.KIND_RULE, 0), canonical.substring(slash));
        Check.due("setDelay of " + text, Check.setDelay(x, text, 2), 0);
        Check.due("hosts of " + text, x.count(CrawlFrontier.COUNT_HOSTS), 1);
    }

    private static void malformed(String text) {
        CrawlFrontier x = new CrawlFrontier(8, 1);
        String fresh = Check.everything(x);
        Check.due("submit of " + text, Check.submit(x, text), CrawlFrontier.BAD_URL);
        Check.due("disallow of " + text, Check.disallow(x, text), CrawlFrontier.BAD_URL);
        Check.due("setDelay of " + text, Check.setDelay(x, text, 2), CrawlFrontier.BAD_URL);
        Check.due("state after " + text, Check.everything(x), fresh);
    }

    private static void schemes() {
        gives("http://a/", "http://a/");
        gives("https://a/", "https://a/");
        gives("HTTPS://a/", "https://a/");
        gives("hTtP://a/", "http://a/");
        String[] wrong = {"", "h", "http", "https", "http:", "http:/", "http://", "https://", "http:a", "http:/a",
            "http//a", "http/://a", "://a", "//a", "/", ":", "a", "httq://a", "gttp://a", "hutp://a", "htup://a",
            "httpt://a", "httpS", "httpss://a", "htt://a", "ftp://a", "http:://a", "http:/:/a", "http:a//b",
            "http:a/b", "http:/ab",
            "xhttp://a", "http!://a", "ht/p://a", "ht#p://a", "ht?p://a", "#http://a",
            "http#://a", "http?://a", "a.b/c", "HTTP//a:80/", "http:\\\\a", "%68ttp://a", "http:/%2Fa",
            "(ttp://a", "HTT0://a", "Http[://a", "http@://a"};
        for (String text : wrong) {
            malformed(text);
        }
    }

    private static void hosts() {
        gives("http://A", "http://a/");
        gives("http://-", "http://-/");
        gives("http://.", "http://./");
        gives("http://..", "http://../");
        gives("http://0.9-Z/", "http://0.9-z/");
        gives("http://abcdefghijklmnop", "http://abcdefghijklmnop/");
        gives("http://ABCDEFGHIJKLMNOP/", "http://abcdefghijklmnop/");
        gives("http://qrstuvwxyz", "http://qrstuvwxyz/");
        gives("http://QRSTUVWXYZ", "http://qrstuvwxyz/");
        gives("http://0123456789", "http://0123456789/");
        String[] wrong = {"http:///", "http://:80/", "http://?q", "http://#f", "http:///a",
            "http://abcdefghijklmnopq", "http://abcdefghijklmnopq/", "http://abcdefghijklmnopq:1"};
        for (String text : wrong) {
            malformed(text);
        }
        for (char c = 33; c <= 126; c++) {
            boolean ends = c == ':' || c == '/' || c == '?' || c == '#';
            boolean fits = Character.isLetterOrDigit(c) || c == '-' || c == '.';
            if (fits) {
                gives("http://a" + c + "b/", "http://a" + Character.toLowerCase(c) + "b/");
                gives("http://" + c, "http://" + Character.toLowerCase(c) + "/");
            } else if (!ends) {
                malformed("http://a" + c + "b/");
                malformed("http://" + c);
                malformed("http://a" + c);
            }
        }
    }

    private static void ports() {
        gives("http://a:80/", "http://a/");
        gives("http://a:80", "http://a/");
        gives("http://a:00080", "http://a/");
        gives("http://a:443/", "http://a:443/");
        gives("https://a:443/", "https://a/");
        gives("https://a:00443?q", "https://a/?q");
        gives("https://a:80/", "https://a:80/");
        gives("http://a:0", "http://a:0/");
        gives("http://a:00000#f", "http://a:0/");
        gives("http://a:1", "http://a:1/");
        gives("http://a:9?q", "http://a:9/?q");
        gives("http://a:10", "http://a:10/");
        gives("http://a:08080/x", "http://a:8080/x");
        gives("http://a:99", "http://a:99/");
        gives("http://a:100", "http://a:100/");
        gives("http://a:0999", "http://a:999/");
        gives("http://a:1000", "http://a:1000/");
        gives("http://a:9999", "http://a:9999/");
        gives("http://a:10000", "http://a:10000/");
        gives("http://a:65535/", "http://a:65535/");
        gives("http://a:60708/", "http://a:60708/");
        String[] wrong = {"http://a:", "http://a:/", "http://a:?q", "http://a:#f", "http://a:65536", "http://a:99999/",
            "http://a:000080/", "http://a:123456", "http://a:0000000/", "http://a:8a/", "http://a:a/", "http://a:-1/",
            "http://a:+1/", "http://a:80:80/", "http://a:80:", "http://a::80", "http://a:8%30", "http://a:8.0",
            "http://a:4294967376"};
        for (String text : wrong) {
            malformed(text);
        }
        for (char c = 33; c <= 126; c++) {
            if (!Character.isDigit(c) && c != '/' && c != '?' && c != '#') {
                malformed("http://a:8" + c);
                malformed("http://a:" + c + "8/");
            }
        }
    }

    private static void pathsAndQueries() {
        gives("http://a?", "http://a/?");
        gives("http://a?q", "http://a/?q");
        gives("http://a/?", "http://a/?");
        gives("http://a??", "http://a/??");
        gives("http://a/b?c?d/../e:f", "http://a/b?c?d/../e:f");
        gives("http://a/b?./.", "http://a/b?./.");
        gives("http://a?/../x", "http://a/?/../x");
        gives("http://a#", "http://a/");
        gives("http://a#?x/%", "http://a/");
        gives("http://a/b#%zz", "http://a/b");
        gives("http://a/b?c#%#?/:", "http://a/b?c");
        gives("http://a/B?C", "http://a/B?C");
        gives("http://a/:80", "http://a/:80");
        gives("http://a/!$&'()*+,;=@[]{}|^`\\\"<>~_", "http://a/!$&'()*+,;=@[]{}|^`\\\"<>~_");
        gives("HTTP://Ex.COM:80/a/./b/../%7ex#f", "http://ex.com/a/~x");
        gives("http://a/b#c?d", "http://a/b");
        gives("http://a?b#c?d", "http://a/?b");
    }

    private static void percent() {
        String hex = "0123456789abcdef";
        for (int value = 0; value < 256; value++) {
            String low = "%" + hex.charAt(value / 16) + hex.charAt(value % 16);
            boolean unreserved = value < 127
                    && (Character.isLetterOrDigit((char) value) || "-._~".indexOf(value) >= 0);
            String kept = unreserved ? "" + (char) value : low.toUpperCase();
            gives("http://a/x" + low + "y?z" + low, "http://a/x" + kept + "y?z" + kept);
            gives("http://a/x" + low.toUpperCase() + "?" + low.toUpperCase(), "http://a/x" + kept + "?" + kept);
        }
        gives("http://a/%aB%Ab", "http://a/%AB%AB");
        gives("http://a/%2541", "http://a/%2541");
        gives("http://a/%25%34%31", "http://a/%2541");
        gives("http://a/%41%42?%43%44", "http://a/AB?CD");
        String[] wrong = {"%", "%4", "%g0", "%0g", "%G0", "%0G", "%%41", "%4%41", "%/1", "%:0", "%0:", "%@0", "%0@",
            "%`0", "%0`", "%-1", "x%", "x%1", "%41%", "%41%4"};
        for (String text : wrong) {
            malformed("http://a/" + text);
            malformed("http://a?" + text);
            malformed("http://a/" + text + "?41");
            malformed("http://a/" + text + "#41");
            malformed("http://a?" + text + "#41");
        }
        for (char c = 33; c <= 126; c++) {
            if (Character.digit(c, 16) < 0) {
                malformed("http://a/%" + c + "0");
                malformed("http://a?%0" + c);
            }
        }
        gives("http://a/%2fb/../c", "http://a/c");
        gives("http://a/b%2f../c", "http://a/b%2F../c");
        gives("http://a/b%3fc%23d", "http://a/b%3Fc%23d");
    }

    private static void dotSegments() {
        String[][] pairs = {{"", "/"}, {"/", "/"}, {"/.", "/"}, {"/..", "/"}, {"/./", "/"}, {"/../", "/"},
            {"//", "//"}, {"///", "///"}, {"/a/.", "/a/"}, {"/a/..", "/"}, {"/a/../", "/"}, {"/a/b/..", "/a/"},
            {"/a/b/../", "/a/"}, {"/a/b/../..", "/"}, {"/a/b/../../..", "/"}, {"/a/b/../../../c", "/c"},
            {"/../a", "/a"}, {"/./a", "/a"}, {"/a/./b", "/a/b"}, {"/a/../b", "/b"}, {"/a//..", "/a/"},
            {"/a//../b", "/a/b"}, {"//..", "/"}, {"//../a", "/a"}, {"/..//", "//"}, {"/..//a", "//a"},
            {"//.", "//"}, {"//a/..", "//"}, {"/...", "/..."}, {"/.../..", "/"}, {"/.a", "/.a"}, {"/..a", "/..a"},
            {"/a.", "/a."}, {"/a..", "/a.."}, {"/a/.../b", "/a/.../b"}, {"/%2e", "/"}, {"/%2E%2e/a", "/a"},
            {"/a/.%2e", "/"}, {"/a/%2e./b", "/b"}, {"/a/%2e/b", "/a/b"}, {"/a/b/%2E%2E", "/a/"},
            {"/a/b/c/./../../g", "/a/g"}, {"/mid/content=5/../6", "/mid/6"}, {"/a/.b/..c/...", "/a/.b/..c/..."},
            {"/.//a", "//a"}, {"/a/b//../../c", "/a/c"}, {"/a/%2f/..", "/a/"}, {"/-/.-/-.", "/-/.-/-."},
            {"/a/./.", "/a/"}, {"/a/../.", "/"}, {"/./..", "/"}, {"/a/b/./..", "/a/"}};
        for (String[] pair : pairs) {
            gives("http://h" + pair[0], "http://h" + pair[1]);
            gives("https://h:1" + pair[0] + "?/../.", "https://h:1" + pair[1] + "?/../.");
            gives("http://h" + pair[0] + "#/../.", "http://h" + pair[1]);
        }
    }

    private static void lengths() {
        String forty = "1234567890123456789012345678901234567890";
        gives("http://a?" + forty.substring(1), "http://a/?" + forty.substring(1));
        gives("http://a/" + forty.substring(1), "http://a/" + forty.substring(1));
        gives("https://abcdefghijklmnop:65535?" + forty.substring(0, 17),
                "https://abcdefghijklmnop:65535/?" + forty.substring(0, 17));
        gives("https://abcdefghijklmnop:65535/" + forty.substring(0, 17),
                "https://abcdefghijklmnop:65535/" + forty.substring(0, 17));
        gives("http://a?%00%01%02%03%04%05%06%07%08%09%0a%0b%0c",
                "http://a/?%00%01%02%03%04%05%06%07%08%09%0A%0B%0C");
        gives("http://a/../../../../../../../../../../../../../", "http://a/");
        gives("http://a////////////////////////////////////////", "http://a////////////////////////////////////////");
        gives("http://a#" + forty.substring(1), "http://a/");
    }
}
