/** The section "Canonical text": what submit, disallow and setDelay rest on. */
public final class CanonicalTextTest {
    public static void main(String[] args) {
        schemes();
        hosts();
        ports();
        pathsAndQueries();
        percent();
        dotSegments();
        lengths();
        Check.end();
    }

    private static void schemes() {
        Check.gives("http://a/", "http://a/");
        Check.gives("https://a/", "https://a/");
        Check.gives("HTTPS://a/", "https://a/");
        Check.gives("hTtP://a/", "http://a/");
        String[] wrong = {"", "h", "http", "https", "http:", "http:/", "http://", "https://", "http:a", "http:/a",
            "http//a", "http/://a", "://a", "//a", "/", ":", "a", "httq://a", "gttp://a", "hutp://a", "htup://a",
            "httpt://a", "httpS", "httpss://a", "htt://a", "ftp://a", "http:://a", "http:/:/a", "http:a//b",
            "http:a/b", "http:/ab",
            "xhttp://a", "http!://a", "ht/p://a", "ht#p://a", "ht?p://a", "#http://a",
            "http#://a", "http?://a", "a.b/c", "HTTP//a:80/", "http:\\\\a", "%68ttp://a", "http:/%2Fa",
            "(ttp://a", "HTT0://a", "Http[://a", "http@://a"};
        for (String text : wrong) {
            Check.malformed(text);
        }
    }

    private static void hosts() {
        Check.gives("http://A", "http://a/");
        Check.gives("http://-", "http://-/");
        Check.gives("http://.", "http://./");
        Check.gives("http://..", "http://../");
        Check.gives("http://0.9-Z/", "http://0.9-z/");
        Check.gives("http://abcdefghijklmnop", "http://abcdefghijklmnop/");
        Check.gives("http://ABCDEFGHIJKLMNOP/", "http://abcdefghijklmnop/");
        Check.gives("http://qrstuvwxyz", "http://qrstuvwxyz/");
        Check.gives("http://QRSTUVWXYZ", "http://qrstuvwxyz/");
        Check.gives("http://0123456789", "http://0123456789/");
        String[] wrong = {"http:///", "http://:80/", "http://?q", "http://#f", "http:///a",
            "http://abcdefghijklmnopq", "http://abcdefghijklmnopq/", "http://abcdefghijklmnopq:1"};
        for (String text : wrong) {
            Check.malformed(text);
        }
        for (char c = 33; c <= 126; c++) {
            boolean ends = c == ':' || c == '/' || c == '?' || c == '#';
            boolean fits = Character.isLetterOrDigit(c) || c == '-' || c == '.';
            if (fits) {
                Check.gives("http://a" + c + "b/", "http://a" + Character.toLowerCase(c) + "b/");
                Check.gives("http://" + c, "http://" + Character.toLowerCase(c) + "/");
            } else if (!ends) {
                Check.malformed("http://a" + c + "b/");
                Check.malformed("http://" + c);
                Check.malformed("http://a" + c);
            }
        }
    }

    private static void ports() {
        Check.gives("http://a:80/", "http://a/");
        Check.gives("http://a:80", "http://a/");
        Check.gives("http://a:00080", "http://a/");
        Check.gives("http://a:443/", "http://a:443/");
        Check.gives("https://a:443/", "https://a/");
        Check.gives("https://a:00443?q", "https://a/?q");
        Check.gives("https://a:80/", "https://a:80/");
        Check.gives("http://a:0", "http://a:0/");
        Check.gives("http://a:00000#f", "http://a:0/");
        Check.gives("http://a:1", "http://a:1/");
        Check.gives("http://a:9?q", "http://a:9/?q");
        Check.gives("http://a:10", "http://a:10/");
        Check.gives("http://a:08080/x", "http://a:8080/x");
        Check.gives("http://a:99", "http://a:99/");
        Check.gives("http://a:100", "http://a:100/");
        Check.gives("http://a:0999", "http://a:999/");
        Check.gives("http://a:1000", "http://a:1000/");
        Check.gives("http://a:9999", "http://a:9999/");
        Check.gives("http://a:10000", "http://a:10000/");
        Check.gives("http://a:65535/", "http://a:65535/");
        Check.gives("http://a:60708/", "http://a:60708/");
        String[] wrong = {"http://a:", "http://a:/", "http://a:?q", "http://a:#f", "http://a:65536", "http://a:99999/",
            "http://a:000080/", "http://a:123456", "http://a:0000000/", "http://a:8a/", "http://a:a/", "http://a:-1/",
            "http://a:+1/", "http://a:80:80/", "http://a:80:", "http://a::80", "http://a:8%30", "http://a:8.0",
            "http://a:4294967376"};
        for (String text : wrong) {
            Check.malformed(text);
        }
        for (char c = 33; c <= 126; c++) {
            if (!Character.isDigit(c) && c != '/' && c != '?' && c != '#') {
                Check.malformed("http://a:8" + c);
                Check.malformed("http://a:" + c + "8/");
            }
        }
    }

    private static void pathsAndQueries() {
        Check.gives("http://a?", "http://a/?");
        Check.gives("http://a?q", "http://a/?q");
        Check.gives("http://a/?", "http://a/?");
        Check.gives("http://a??", "http://a/??");
        Check.gives("http://a/b?c?d/../e:f", "http://a/b?c?d/../e:f");
        Check.gives("http://a/b?./.", "http://a/b?./.");
        Check.gives("http://a?/../x", "http://a/?/../x");
        Check.gives("http://a#", "http://a/");
        Check.gives("http://a#?x/%", "http://a/");
        Check.gives("http://a/b#%zz", "http://a/b");
        Check.gives("http://a/b?c#%#?/:", "http://a/b?c");
        Check.gives("http://a/B?C", "http://a/B?C");
        Check.gives("http://a/:80", "http://a/:80");
        Check.gives("http://a/!$&'()*+,;=@[]{}|^`\\\"<>~_", "http://a/!$&'()*+,;=@[]{}|^`\\\"<>~_");
        Check.gives("HTTP://Ex.COM:80/a/./b/../%7ex#f", "http://ex.com/a/~x");
        Check.gives("http://a/b#c?d", "http://a/b");
        Check.gives("http://a?b#c?d", "http://a/?b");
    }

    private static void percent() {
        String hex = "0123456789abcdef";
        for (int value = 0; value < 256; value++) {
            String low = "%" + hex.charAt(value / 16) + hex.charAt(value % 16);
            boolean unreserved = value < 127
                    && (Character.isLetterOrDigit((char) value) || "-._~".indexOf(value) >= 0);
            String kept = unreserved ? "" + (char) value : low.toUpperCase();
            Check.gives("http://a/x" + low + "y?z" + low, "http://a/x" + kept + "y?z" + kept);
            Check.gives("http://a/x" + low.toUpperCase() + "?" + low.toUpperCase(), "http://a/x" + kept + "?" + kept);
        }
        Check.gives("http://a/%aB%Ab", "http://a/%AB%AB");
        Check.gives("http://a/%2541", "http://a/%2541");
        Check.gives("http://a/%25%34%31", "http://a/%2541");
        Check.gives("http://a/%41%42?%43%44", "http://a/AB?CD");
        String[] wrong = {"%", "%4", "%g0", "%0g", "%G0", "%0G", "%%41", "%4%41", "%/1", "%:0", "%0:", "%@0", "%0@",
            "%`0", "%0`", "%-1", "x%", "x%1", "%41%", "%41%4"};
        for (String text : wrong) {
            Check.malformed("http://a/" + text);
            Check.malformed("http://a?" + text);
            Check.malformed("http://a/" + text + "?41");
            Check.malformed("http://a/" + text + "#41");
            Check.malformed("http://a?" + text + "#41");
        }
        for (char c = 33; c <= 126; c++) {
            if (Character.digit(c, 16) < 0) {
                Check.malformed("http://a/%" + c + "0");
                Check.malformed("http://a?%0" + c);
            }
        }
        Check.gives("http://a/%2fb/../c", "http://a/c");
        Check.gives("http://a/b%2f../c", "http://a/b%2F../c");
        Check.gives("http://a/b%3fc%23d", "http://a/b%3Fc%23d");
    }

    private static void dotSegments() {
        String[][] pairs = {{"", "/"}, {"/", "/"}, {"/.", "/"}, {"/..", "/"}, {"/./", "/"}, {"/../", "/"},
            {"//", "//"}, {"///", "///"}, {"/a/.", "/a/"}, {"/a/..", "/"}, {"/a/../", "/"}, {"/a/b/..", "/a/"},
            {"/a/b/../", "/a/"}, {"/a/b/../..", "/"}, {"/a/b/../../..", "/"}, {"/a/b/../../../c", "/c"},
            {"/../a", "/a"}, {"/./a", "/a"}, {"/a/./b", "/a/b"}, {"/a/../b", "/b"}, {"/a//..", "/a/"},
            {"/a//../b", "/a/b"}, {"//..", "/"}, {"//../a", "/a"}, {"/..//", "//"}, {"/..//a", "//a"},
            {"//.", "//"}, {"//a/..", "//"}, {"/...", "/..."}, {"/.../..", "/"}, {"/.a", "/.a"}, {"/..a", "/..a"},
            {"/a.", "/a."}, {"/a..", "/a.."}, {"/a/.../b", "/a/.../b"}, {"/%2e", "/"}, {"/%2E%2e/a", "/a"},
            {"/a/.%2e", "/"}, {"/a/%2e./b", "/b"}, {"/a/%2e/b", "/a/b"}, {"/a/b/%2E%2E", "/a/"},
            {"/a/b/c/./../../g", "/a/g"}, {"/mid/content=5/../6", "/mid/6"}, {"/a/.b/..c/...", "/a/.b/..c/..."},
            {"/.//a", "//a"}, {"/a/b//../../c", "/a/c"}, {"/a/%2f/..", "/a/"}, {"/-/.-/-.", "/-/.-/-."},
            {"/a/./.", "/a/"}, {"/a/../.", "/"}, {"/./..", "/"}, {"/a/b/./..", "/a/"}};
        for (String[] pair : pairs) {
            Check.gives("http://h" + pair[0], "http://h" + pair[1]);
            Check.gives("https://h:1" + pair[0] + "?/../.", "https://h:1" + pair[1] + "?/../.");
            Check.gives("http://h" + pair[0] + "#/../.", "http://h" + pair[1]);
        }
    }

    private static void lengths() {
        String forty = "1234567890123456789012345678901234567890";
        Check.gives("http://a?" + forty.substring(1), "http://a/?" + forty.substring(1));
        Check.gives("http://a/" + forty.substring(1), "http://a/" + forty.substring(1));
        Check.gives("https://abcdefghijklmnop:65535?" + forty.substring(0, 17),
                "https://abcdefghijklmnop:65535/?" + forty.substring(0, 17));
        Check.gives("https://abcdefghijklmnop:65535/" + forty.substring(0, 17),
                "https://abcdefghijklmnop:65535/" + forty.substring(0, 17));
        Check.gives("http://a?%00%01%02%03%04%05%06%07%08%09%0a%0b%0c",
                "http://a/?%00%01%02%03%04%05%06%07%08%09%0A%0B%0C");
        Check.gives("http://a/../../../../../../../../../../../../../", "http://a/");
        Check.gives("http://a////////////////////////////////////////", "http://a////////////////////////////////////////");
        Check.gives("http://a#" + forty.substring(1), "http://a/");
    }
}
