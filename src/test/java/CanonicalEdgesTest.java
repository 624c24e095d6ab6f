/** The section "Canonical text": each sentence that names an edge has a test of its own. */
public final class CanonicalEdgesTest {
    public static void main(String[] args) {
        syntax();
        portsPathsAndQueries();
        percentRule();
        dotSegments();
        canonicalText();
        matchAndRefusals();
        Check.end();
    }

    // ---- URL syntax ----

    private static void syntax() {
        Check.sentence("The buffer text is split left to right into the following parts.",
                CanonicalEdgesTest::leftToRight);
        Check.sentence("the characters before the first `:`.", CanonicalEdgesTest::firstColon);
        Check.sentence("If there is no `:` at all, the text is malformed.", () -> Check.malformed("http", "https//a",
                "http//a/b", "a", "/", "//a", "#", "?", "a.b", "httpx//a?b#c", "http///a", "https///a/b", "http?//a",
                "http#//a", "https#//a?b", "https?//a"));
        Check.sentence("Lowercased (A-Z to a-z), the scheme must be `http` (default port 80) or `https` (default port"
                + " 443).", CanonicalEdgesTest::schemes);
        Check.sentence("these two characters must follow that `:`.", () -> Check.malformed("http:", "http:/", "http:a",
                "http:/a", "http:a/", "http:a//b", "http:/a/", "http:?//a", "http:/:/a", "https:/", "https:/a",
                "http:\\\\a", "http:/\\a", "http:\\/a", "http:/?a", "http:/#a"));
        Check.sentence("the characters after `//` up to (not including) the first `:`, `/`, `?` or `#`, or to the"
                + " end.", CanonicalEdgesTest::hostEnds);
        Check.sentence("It has 1..16 characters.", CanonicalEdgesTest::hostLengths);
        Check.sentence("Each character is a letter, digit, `-` or `.`.", CanonicalEdgesTest::hostCharacters);
        Check.sentence("It is lowercased.", CanonicalEdgesTest::hostLowercased);
        Check.sentence("Anything that does not fit is malformed.", CanonicalEdgesTest::doesNotFit);
        Check.sentence("An empty buffer is malformed.", CanonicalEdgesTest::emptyBuffer);
    }

    /** Every part, present and absent, with the delimiters in it that do not end it. */
    private static void leftToRight() {
        String[] ports = {"", ":8"};
        String[] paths = {"", "/", "/:", "/p:/@q"};
        String[] queries = {"", "?", "?:/?", "?q/../."};
        String[] fragments = {"", "#", "#:/?#", "#%/../?"};
        for (String port : ports) {
            for (String path : paths) {
                for (String query : queries) {
                    for (String fragment : fragments) {
                        String canonicalPath = path.isEmpty() ? "/" : path;
                        Check.gives("http://h" + port + path + query + fragment,
                                "http://h" + port + canonicalPath + query);
                    }
                }
            }
        }
    }

    private static void firstColon() {
        Check.malformed("://a", ":http://a", "a:http://b", "http:80://a", "http:https://a", "ht:tp://a");
        Check.gives("http://a/b://c:d", "http://a/b://c:d");
        Check.gives("http://a?http://b:1", "http://a/?http://b:1");
    }

    private static void schemes() {
        Check.gives("http://a:80", "http://a/");
        Check.gives("https://a:443", "https://a/");
        Check.gives("http://a:443", "http://a:443/");
        Check.gives("https://a:80", "https://a:80/");
        for (int upper = 0; upper < 32; upper++) {
            StringBuilder scheme = new StringBuilder("https");
            for (int i = 0; i < 5; i++) {
                if ((upper >> i & 1) == 1) {
                    scheme.setCharAt(i, "HTTPS".charAt(i));
                }
            }
            Check.gives(scheme + "://a", "https://a/");
            Check.gives(scheme.substring(0, 4) + "://a", "http://a/");
        }
        Check.malformed("htt://a", "httpss://a", "httpx://a", "xhttp://a", "http0://a", "ftp://a", "h://a", "ttp://a",
                "httpsx://a", "shttp://a", "ahttps://a");
        for (char c = 33; c <= 126; c++) {
            for (int i = 0; i < 5; i++) {
                StringBuilder scheme = new StringBuilder("https");
                scheme.setCharAt(i, c);
                if (!scheme.toString().equalsIgnoreCase("https")) {
                    Check.malformed(scheme + "://a");
                }
            }
        }
    }

    private static void hostEnds() {
        Check.gives("http://a.b", "http://a.b/");
        Check.gives("http://a.b:1", "http://a.b:1/");
        Check.gives("http://a.b/", "http://a.b/");
        Check.gives("http://a.b?", "http://a.b/?");
        Check.gives("http://a.b#", "http://a.b/");
        Check.gives("http://a.b/c:d", "http://a.b/c:d");
        Check.gives("http://a.b?c/d:e", "http://a.b/?c/d:e");
        Check.gives("http://a.b#c?d/e:f", "http://a.b/");
    }

    private static void hostLengths() {
        String[] ends = {"", ":81", "/", "?", "#"};
        String[] canonical = {"/", ":81/", "/", "/?", "/"};
        String letters = "abcdefghijklmnopqrstuvwxyz";
        for (int end = 0; end < ends.length; end++) {
            Check.malformed("http://" + ends[end], "https://" + ends[end]);
            for (int length = 1; length <= 16; length++) {
                String name = letters.substring(0, length);
                Check.gives("http://" + name + ends[end], "http://" + name + canonical[end]);
            }
            for (int length = 17; length <= 26; length++) {
                Check.malformed("http://" + letters.substring(0, length) + ends[end]);
            }
        }
        Check.malformed("http://" + letters + "abcdefghijklmno");
    }

    private static void hostCharacters() {
        for (char c = 33; c <= 126; c++) {
            boolean letterOrDigit = c >= 'a' && c <= 'z' || c >= 'A' && c <= 'Z' || c >= '0' && c <= '9';
            if (letterOrDigit || c == '-' || c == '.') {
                Check.gives("http://" + c, "http://" + Character.toLowerCase(c) + "/");
                Check.gives("http://x" + c + "y/", "http://x" + Character.toLowerCase(c) + "y/");
            } else if (c != ':' && c != '/' && c != '?' && c != '#') {
                Check.malformed("http://" + c, "http://x" + c, "http://" + c + "y", "http://x" + c + "y:8/");
            }
        }
        Check.gives("http://-", "http://-/");
        Check.gives("http://...", "http://.../");
    }

    private static void hostLowercased() {
        String upper = "ABCDEFGHIJKLMNOPQRSTUVWXYZ";
        for (int i = 0; i < 26; i++) {
            CrawlFrontier x = new CrawlFrontier(8, 1);
            Check.setDelay(x, "http://" + upper.charAt(i), 2);
            Check.due("name", Check.text(x, CrawlFrontier.KIND_HOST, 0), "" + (char) ('a' + i));
            Check.due("same host", Check.setDelay(x, "http://" + (char) ('a' + i), 2), 0);
        }
        Check.gives("http://A-.09Z/A", "http://a-.09z/A");
    }

    private static void doesNotFit() {
        Check.malformed("http://a!b", "http://user@a/", "http://a\\b", "http://[::1]/", "http://a,b",
                "http://a:8:8", "http://a:8a", "http://a_b", "http://a%41", "http://a:%38", "mailto:a", "http:a", "::",
                "http://:", "http://a:-1", "https:///x", "http://a/%", "http://a?%");
    }

    private static void emptyBuffer() {
        Check.malformed("");
        CrawlFrontier x = Made.busy();
        Check.submitRefused(x, "", CrawlFrontier.BAD_URL);
        Check.disallowRefused(x, "", CrawlFrontier.BAD_URL);
        Check.setDelayRefused(x, "", 1, CrawlFrontier.BAD_URL);
        // What an earlier text left behind is not there any more.
        Check.type(x, "http://q/new");
        x.clear();
        Check.submitRefused(x, "", CrawlFrontier.BAD_URL);
    }

    // ---- port, path, query and fragment ----

    private static void portsPathsAndQueries() {
        Check.sentence("present iff the host ends at `:`.", CanonicalEdgesTest::portPresent);
        Check.sentence("It is the characters after that `:` up to the first `/`, `?` or `#`, or the end.",
                CanonicalEdgesTest::portEnds);
        Check.sentence("It has 1..5 decimal digits whose value is at most 65535.", CanonicalEdgesTest::portDigits);
        Check.sentence("present iff the next character is `/`. It runs from that `/` up to the first `?` or `#`, or"
                + " the end.", CanonicalEdgesTest::pathEnds);
        Check.sentence("present iff the next character is `?`. It runs from that `?` up to the first `#`, or the end.",
                CanonicalEdgesTest::queryEnds);
        Check.sentence("present iff the next character is `#`. It runs from there to the end and may contain"
                + " anything.", CanonicalEdgesTest::fragment);
    }

    private static void portPresent() {
        Check.gives("http://a:8", "http://a:8/");
        Check.gives("http://a/:8", "http://a/:8");
        Check.gives("http://a?:8", "http://a/?:8");
        Check.gives("http://a#:8", "http://a/");
        Check.gives("http://a/:", "http://a/:");
        Check.malformed("http://a:", "http://a:/8", "http://a:?8", "http://a:#8");
    }

    private static void portEnds() {
        Check.gives("http://a:8", "http://a:8/");
        Check.gives("http://a:8/9", "http://a:8/9");
        Check.gives("http://a:8?9", "http://a:8/?9");
        Check.gives("http://a:8#9", "http://a:8/");
        Check.malformed("http://a:8:9", "http://a:8:", "http://a::8", "http://a:8:/");
    }

    private static void portDigits() {
        String[] ends = {"", "/", "?", "#"};
        String[] canonical = {"/", "/", "/?", "/"};
        for (int end = 0; end < ends.length; end++) {
            Check.malformed("http://a:" + ends[end], "http://a:65536" + ends[end], "http://a:99999" + ends[end],
                    "http://a:000001" + ends[end], "http://a:065535" + ends[end], "http://a:000000" + ends[end],
                    "http://a:100000" + ends[end], "http://a:4294967297" + ends[end]);
            Check.gives("http://a:0" + ends[end], "http://a:0" + canonical[end]);
            Check.gives("http://a:1" + ends[end], "http://a:1" + canonical[end]);
            Check.gives("http://a:65534" + ends[end], "http://a:65534" + canonical[end]);
            Check.gives("http://a:65535" + ends[end], "http://a:65535" + canonical[end]);
            Check.gives("http://a:00001" + ends[end], "http://a:1" + canonical[end]);
        }
        for (char c = 33; c <= 126; c++) {
            boolean ending = c == '/' || c == '?' || c == '#';
            if (c >= '0' && c <= '9') {
                Check.gives("http://a:" + c, "http://a:" + c + "/");
            } else if (!ending) {
                Check.malformed("http://a:" + c, "http://a:1" + c, "http://a:" + c + "1/", "http://a:1" + c + "1/");
            }
        }
    }

    private static void pathEnds() {
        Check.gives("http://a/b:c", "http://a/b:c");
        Check.gives("http://a/b?c/d", "http://a/b?c/d");
        Check.gives("http://a/b#c/d", "http://a/b");
        Check.gives("http://a:8/b#c?d", "http://a:8/b");
        Check.gives("http://a/", "http://a/");
        Check.gives("http://a/?", "http://a/?");
        Check.gives("http://a/#", "http://a/");
        // Dots show where the path ends: behind it they stay.
        Check.gives("http://a/b/..?/..", "http://a/?/..");
        Check.gives("http://a?/b/..", "http://a/?/b/..");
    }

    private static void queryEnds() {
        Check.gives("http://a?", "http://a/?");
        Check.gives("http://a?#", "http://a/?");
        Check.gives("http://a??", "http://a/??");
        Check.gives("http://a/?b?c", "http://a/?b?c");
        Check.gives("http://a?b#c", "http://a/?b");
        Check.gives("http://a?b#c#d?e", "http://a/?b");
        Check.gives("http://a:8?b/c:d", "http://a:8/?b/c:d");
        Check.gives("http://a/b#?c", "http://a/b");
    }

    private static void fragment() {
        StringBuilder all = new StringBuilder();
        for (char c = 33; c <= 126; c++) {
            Check.gives("http://a#" + c, "http://a/");
            Check.gives("http://a/#" + c + c, "http://a/");
            Check.gives("http://a?#" + c, "http://a/?");
            all.append(c);
        }
        String twice = all.toString() + all;
        for (int from = 0; from < all.length(); from++) {
            Check.gives("http://a#" + twice.substring(from, from + 39), "http://a/");
        }
        Check.gives("http://a#%", "http://a/");
        Check.gives("http://a:80#:x/../%4?%", "http://a/");
        Check.gives("http://a##", "http://a/");
    }

    // ---- percent rule ----

    private static void percentRule() {
        Check.sentence("This applies to the path and the query separately.", CanonicalEdgesTest::eachPartAlone);
        Check.sentence("Every `%` must be followed, inside the same part, by two hex digits (0-9, a-f, A-F); otherwise"
                + " the text is malformed.", CanonicalEdgesTest::twoHexDigits);
        Check.sentence("by the single character of that value, when that character is unreserved (A-Z a-z 0-9 `-` `.`"
                + " `_` `~`);", () -> triples(true));
        Check.sentence("otherwise by `%` and the same two digits, with a-f made A-F.", () -> triples(false));
        Check.sentence("All other characters stay.", CanonicalEdgesTest::othersStay);
    }

    private static void eachPartAlone() {
        Check.gives("http://a/%41?%41", "http://a/A?A");
        Check.gives("http://a/%41", "http://a/A");
        Check.gives("http://a?%41", "http://a/?A");
        Check.gives("http://a/%2f?%2f", "http://a/%2F?%2F");
        Check.malformed("http://a/%?41", "http://a/%4?1", "http://a/%41?%", "http://a/%?%41");
    }

    private static void twoHexDigits() {
        String digits = "0123456789abcdefABCDEF";
        for (char c = 33; c <= 126; c++) {
            if (digits.indexOf(c) >= 0) {
                String kept = "%0" + Character.toUpperCase(c);
                Check.gives("http://a/%0" + c + "?%0" + c, "http://a/" + kept + "?" + kept);
                Check.gives("http://a?%8" + c, "http://a/?%8" + Character.toUpperCase(c));
            } else {
                Check.malformed("http://a/%" + c + "0", "http://a/%0" + c, "http://a?%" + c + "0",
                        "http://a?%0" + c, "http://a/%" + c + c, "http://a?%" + c + c);
            }
        }
        String[] cut = {"%", "%4", "x%", "x%4", "%41%", "%41%4", "%%", "%%41", "%4%41"};
        for (String part : cut) {
            Check.malformed("http://a/" + part, "http://a?" + part, "http://a/" + part + "?11", "http://a/" + part
                    + "#11", "http://a?" + part + "#11");
        }
        // The longest text there is, ending in whole and in cut triples.
        Check.gives(Made.text(45, 'x') + "%41", Made.text(45, 'x') + "A");
        Check.malformed(Made.text(46, 'x') + "%4", Made.text(47, 'x') + "%");
    }

    private static boolean isUnreserved(int value) {
        return value >= 'A' && value <= 'Z' || value >= 'a' && value <= 'z' || value >= '0' && value <= '9'
                || value == '-' || value == '.' || value == '_' || value == '~';
    }

    private static void triples(boolean unreserved) {
        String[] digits = {"0123456789abcdef", "0123456789ABCDEF"};
        for (int value = 0; value < 256; value++) {
            if (isUnreserved(value) == unreserved) {
                for (int mixed = 0; mixed < 4; mixed++) {
                    String triple = "%" + digits[mixed & 1].charAt(value / 16) + digits[mixed >> 1].charAt(value % 16);
                    String kept = unreserved ? "" + (char) value : triple.toUpperCase();
                    Check.gives("http://a/x" + triple + "?" + triple, "http://a/x" + kept + "?" + kept);
                }
            }
        }
        // What comes out is not looked at again.
        Check.gives("http://a/%25%34%31", "http://a/%2541");
        Check.gives("http://a/%2541", "http://a/%2541");
    }

    private static void othersStay() {
        for (char c = 33; c <= 126; c++) {
            if (c != '%' && c != '#') {
                Check.gives("http://a?x" + c + "y", "http://a/?x" + c + "y");
            }
            if (c != '%' && c != '#' && c != '?') {
                Check.gives("http://a/x" + c + "y", "http://a/x" + c + "y");
            }
        }
    }

    // ---- dot segments ----

    private static void dotSegments() {
        Check.sentence("This applies to the path after the percent rule.", CanonicalEdgesTest::afterPercent);
        Check.sentence("An absent path counts as `/`.", CanonicalEdgesTest::absentPath);
        Check.sentence("is split at every `/` into segments s1..sk (k >= 1; empty segments count).", () -> paths("/",
                "/", "//", "//", "///", "///", "/a//", "/a//", "//a", "//a", "/a//b", "/a//b", "/a//..", "/a/",
                "/a//../b", "/a/b", "//..", "/", "///..", "//", "//../a", "/a"));
        Check.sentence("An output list starts empty.", () -> paths("/..", "/", "/../a", "/a", "/../..", "/", "/../../a",
                "/a"));
        Check.sentence("`.` removes nothing.", () -> paths("/a/./b", "/a/b", "/./a", "/a", "/././a", "/a", "/a/././b",
                "/a/b", "//./a", "//a"));
        Check.sentence("`..` removes the last output segment, if there is one.", () -> paths("/a/../b", "/b",
                "/a/b/../c", "/a/c", "/a/b/../../c", "/c", "/a/../../b", "/b", "/../b", "/b", "/a/./../b", "/b",
                "/a/../../../b/c", "/b/c", "/a/b/c/../../d", "/a/d"));
        Check.sentence("Either of these two, when it is sk, then appends an empty segment.", () -> paths("/.", "/",
                "/..", "/", "/a/.", "/a/", "/a/..", "/", "/a/b/..", "/a/", "/a/./.", "/a/", "/a/../..", "/", "//.",
                "//", "/a/./", "/a/", "/a/../", "/"));
        Check.sentence("Any other segment is appended.", () -> paths("/...", "/...", "/.a", "/.a", "/..a", "/..a", "/a.",
                "/a.", "/a..", "/a..", "/a/.../b", "/a/.../b", "/..;/a", "/..;/a", "/.../..", "/", "/-/.-", "/-/.-",
                "/%2f./..", "/", "/a%2f../b", "/a%2F../b"));
        Check.sentence("The path becomes `/` followed by the output segments joined with `/`.", () -> paths("/a", "/a",
                "/a/", "/a/", "/a/b", "/a/b", "/a/b/", "/a/b/", "/a/x/../b/./c", "/a/b/c", "//a//b//", "//a//b//"));
        Check.sentence("When the list is empty, the path is just `/`.", () -> paths("/", "/", "/./", "/", "/../", "/",
                "/a/../", "/", "/././.", "/", "/../../..", "/", "/a/b/../..", "/", "/a/b/../../", "/"));
    }

    private static void paths(String... pairs) {
        for (int i = 0; i < pairs.length; i += 2) {
            Check.gives("http://h" + pairs[i], "http://h" + pairs[i + 1]);
            Check.gives("http://h" + pairs[i] + "?a/../.", "http://h" + pairs[i + 1] + "?a/../.");
            Check.gives("http://h:8" + pairs[i] + "#a/../.", "http://h:8" + pairs[i + 1]);
        }
    }

    private static void afterPercent() {
        paths("/a/%2e", "/a/", "/a/%2E%2e", "/", "/a/.%2e/b", "/b", "/a/%2e./b", "/b", "/%2e%2e%2e", "/...",
                "/%2e/a", "/a", "/a%2f..", "/a%2F..", "/a/%2e%2e%2f", "/a/..%2F");
        Check.gives("http://h?%2e%2e/%2e", "http://h/?../.");
    }

    private static void absentPath() {
        Check.gives("http://h", "http://h/");
        Check.gives("http://h:8", "http://h:8/");
        Check.gives("http://h?q", "http://h/?q");
        Check.gives("http://h#f", "http://h/");
        Check.gives("http://h:80?", "http://h/?");
    }

    // ---- canonical text and path-and-query ----

    private static void canonicalText() {
        Check.sentence("CANONICAL TEXT = scheme + `://` + host + port part + path + query", CanonicalEdgesTest::joined);
        Check.sentence("the port part is present exactly when a port is present and its value differs from the"
                + " scheme's default port;", CanonicalEdgesTest::portPart);
        Check.sentence("it is then `:` + the port in decimal without leading zeros.",
                CanonicalEdgesTest::leadingZeros);
        Check.sentence("With no port, or with the default port, nothing is written;", CanonicalEdgesTest::noPortPart);
        Check.sentence("the query includes its `?`;", () -> Check.gives("http://a?b", "http://a/?b"));
        Check.sentence("the fragment is dropped.", CanonicalEdgesTest::fragmentDropped);
        Check.sentence("The canonical text's length is at most 49.", CanonicalEdgesTest::longest);
        Check.sentence("Its PATH-AND-QUERY is the path followed by the query.", CanonicalEdgesTest::pathAndQuery);
        Check.sentence("Example: `HTTP://Ex.COM:80/a/./b/../%7ex#f` gives `http://ex.com/a/~x`.",
                () -> Check.gives("HTTP://Ex.COM:80/a/./b/../%7ex#f", "http://ex.com/a/~x"));
    }

    private static void joined() {
        Check.gives("http://h", "http://h/");
        Check.gives("https://h", "https://h/");
        Check.gives("HTTP://H.I-J:0081/P/./%7e?Q=%7e&%2f#F", "http://h.i-j:81/P/~?Q=~&%2F");
        Check.gives("Https://0.-:80/?/../#", "https://0.-:80/?/../");
        Check.gives("httpS://ABCDEFGHIJKLMNOP:65535/..?", "https://abcdefghijklmnop:65535/?");
    }

    private static void portPart() {
        int[] ports = {0, 1, 9, 10, 79, 80, 81, 99, 100, 442, 443, 444, 999, 1000, 8080, 9999, 10000, 65534, 65535};
        for (int port : ports) {
            Check.gives("http://a:" + port, "http://a" + (port == 80 ? "" : ":" + port) + "/");
            Check.gives("https://a:" + port + "?q", "https://a" + (port == 443 ? "" : ":" + port) + "/?q");
        }
    }

    private static void leadingZeros() {
        int[] ports = {0, 1, 10, 70, 100, 205, 1000, 1001, 9090};
        for (int port : ports) {
            for (int digits = 1; digits <= 5; digits++) {
                String written = String.format("%0" + digits + "d", port);
                if (written.length() == digits) {
                    Check.gives("http://a:" + written + "/x", "http://a:" + port + "/x");
                }
            }
        }
        Check.gives("http://a:10000", "http://a:10000/");
        Check.gives("http://a:60000", "http://a:60000/");
    }

    private static void noPortPart() {
        String[] defaults = {"", ":80", ":080", ":0080", ":00080"};
        for (String port : defaults) {
            Check.gives("http://a" + port, "http://a/");
            Check.gives("http://a" + port + "/b", "http://a/b");
        }
        String[] secure = {"", ":443", ":0443", ":00443"};
        for (String port : secure) {
            Check.gives("https://a" + port, "https://a/");
            Check.gives("HTTPS://a" + port + "?b", "https://a/?b");
        }
    }

    private static void fragmentDropped() {
        CrawlFrontier x = new CrawlFrontier(8, 1);
        Check.due("with one", Check.submit(x, "http://a/b#c"), 0);
        Check.due("text", Check.text(x, CrawlFrontier.KIND_URL, 0), "http://a/b");
        Check.due("without", Check.submit(x, "http://a/b"), CrawlFrontier.DUPLICATE);
        Check.due("with an empty one", Check.submit(x, "http://a/b#"), CrawlFrontier.DUPLICATE);
        Check.due("with another", Check.submit(x, "http://a/b#d"), CrawlFrontier.DUPLICATE);
    }

    private static void longest() {
        String digits = "1234567890".repeat(4);
        String[] texts = {"http://a?" + digits.substring(1), "https://a?" + digits.substring(2),
            "http://abcdefghijklmnop?" + digits.substring(16), "https://abcdefghijklmnop:65535?" + digits.substring(23)};
        for (String text : texts) {
            Check.due("length of " + text, text.length(), 48);
            Check.gives(text, text.replace("?", "/?"));
            CrawlFrontier x = new CrawlFrontier(8, 1);
            Check.submit(x, text);
            Check.due("canonical length", x.textLength(CrawlFrontier.KIND_URL, 0), 49);
            Check.due("last character", x.textChar(CrawlFrontier.KIND_URL, 0, 48), '0');
        }
        Check.gives("http://a/" + digits.substring(1), "http://a/" + digits.substring(1));
        Check.gives("http://a" + "/".repeat(40), "http://a" + "/".repeat(40));
        Check.gives("http://a" + "/..".repeat(13), "http://a/");
        Check.gives("http://a?" + "%ff".repeat(13), "http://a/?" + "%FF".repeat(13));
    }

    private static void pathAndQuery() {
        String[] texts = {"http://a", "http://a?", "http://a/b", "http://a/b?", "http://a/b/../c?d/..#e", "http://a:8?b"};
        String[] prefixes = {"/", "/?", "/b", "/b?", "/c?d/..", "/?b"};
        for (int i = 0; i < texts.length; i++) {
            CrawlFrontier x = new CrawlFrontier(8, 1);
            Check.disallow(x, texts[i]);
            Check.due(texts[i], Check.text(x, CrawlFrontier.KIND_RULE, 0), prefixes[i]);
        }
    }

    // ---- match, buffer and refusals ----

    private static void matchAndRefusals() {
        Check.sentence("the URL's host name equals the name of the rule's host;", CanonicalEdgesTest::matchHost);
        Check.sentence("the rule's prefix is a prefix (character by character, case-sensitive) of the URL's"
                + " path-and-query.", CanonicalEdgesTest::matchPrefix);
        Check.sentence("`submit`, `disallow` and `setDelay` always empty the buffer, whatever they answer.",
                CanonicalEdgesTest::alwaysEmpties);
        Check.sentence("Apart from that, a refused call (negative answer) changes nothing.",
                CanonicalEdgesTest::refusedChangesNothing);
    }

    private static void matches(String rule, String url, boolean due) {
        CrawlFrontier before = new CrawlFrontier(8, 1);
        Check.disallow(before, rule);
        Check.due("submit of " + url + " under " + rule, Check.submit(before, url),
                due ? CrawlFrontier.DISALLOWED : 0);
        CrawlFrontier after = new CrawlFrontier(8, 1);
        Check.submit(after, url);
        Check.due("disallow of " + rule + " over " + url, Check.disallow(after, rule), due ? 1 : 0);
    }

    private static void matchHost() {
        matches("http://a/p", "http://a/p", true);
        matches("http://A/p", "http://a/p", true);
        matches("https://a:8/p", "http://a:9/p", true);
        matches("http://a/p", "http://b/p", false);
        matches("http://a/p", "http://aa/p", false);
        matches("http://aa/p", "http://a/p", false);
        matches("http://a/p", "http://a./p", false);
        matches("http://abcdefghijklmnop/p", "http://abcdefghijklmnoq/p", false);
        matches("http://abcdefghijklmnop/p", "http://abcdefghijklmno/p", false);
        matches("http://abcdefghijklmnop/p", "http://abcdefghijklmnop/p", true);
    }

    private static void matchPrefix() {
        matches("http://a", "http://a", true);
        matches("http://a", "http://a?q", true);
        matches("http://a", "http://a/b/c", true);
        matches("http://a/p", "http://a", false);
        matches("http://a/p", "http://a/", false);
        matches("http://a/p", "http://a/p", true);
        matches("http://a/p", "http://a/pq", true);
        matches("http://a/p", "http://a/p?q", true);
        matches("http://a/p", "http://a/P", false);
        matches("http://a/P", "http://a/p", false);
        matches("http://a/pq", "http://a/p", false);
        matches("http://a/p/", "http://a/p", false);
        matches("http://a/p?", "http://a/p", false);
        matches("http://a/p?", "http://a/p?q", true);
        matches("http://a/p?q", "http://a/p?Q", false);
        matches("http://a?", "http://a/", false);
        matches("http://a?", "http://a/?", true);
        matches("http://a/q", "http://a/p/q", false);
        matches("http://a/%2f", "http://a/%2F1", true);
        matches(Made.prefix(40, 'p'), Made.prefix(40, 'p'), true);
        matches(Made.prefix(40, 'p'), Made.prefix(39, 'p'), false);
        matches(Made.prefix(39, 'p'), Made.prefix(40, 'p'), true);
    }

    private static void emptied(String call, CrawlFrontier x, int got, int due) {
        Check.due(call, got, due);
        Check.due("buffer length after " + call, x.textLength(CrawlFrontier.KIND_BUFFER, 0), 0);
        Check.due("first character after " + call, x.textChar(CrawlFrontier.KIND_BUFFER, 0, 0), -1);
        Check.due("submit of what is left after " + call, x.submit(), CrawlFrontier.BAD_URL);
    }

    private static CrawlFrontier typed(CrawlFrontier x, String text) {
        Check.type(x, text);
        return x;
    }

    private static void alwaysEmpties() {
        CrawlFrontier x = Made.busy();
        emptied("submit", x, typed(x, "http://e/1").submit(), 5);
        emptied("submit, bad", x, typed(x, "http:/e").submit(), CrawlFrontier.BAD_URL);
        emptied("submit, bad at its end", x, typed(x, "http://e/?%").submit(), CrawlFrontier.BAD_URL);
        emptied("submit, empty", x, x.submit(), CrawlFrontier.BAD_URL);
        emptied("submit, again", x, typed(x, "http://e/1").submit(), CrawlFrontier.DUPLICATE);
        emptied("submit, disallowed", x, typed(x, "http://d/z1").submit(), CrawlFrontier.DISALLOWED);
        emptied("disallow", x, typed(x, "http://e").disallow(), 1);
        emptied("disallow, blocking none", x, typed(x, "http://f").disallow(), 0);
        emptied("disallow, bad", x, typed(x, "e").disallow(), CrawlFrontier.BAD_URL);
        emptied("disallow, again", x, typed(x, "http://e").disallow(), CrawlFrontier.DUPLICATE);
        emptied("setDelay", x, typed(x, "http://e").setDelay(16), 4);
        emptied("setDelay, bad", x, typed(x, "e:").setDelay(16), CrawlFrontier.BAD_URL);
        emptied("setDelay, too small", x, typed(x, "http://e").setDelay(0), CrawlFrontier.BAD_DELAY);
        emptied("setDelay, too large", x, typed(x, "e:").setDelay(17), CrawlFrontier.BAD_DELAY);
        CrawlFrontier hosts = Made.withHosts(8);
        emptied("submit, no room", hosts, typed(hosts, "http://i").submit(), CrawlFrontier.NO_HOST_ROOM);
        emptied("disallow, no room", hosts, typed(hosts, "http://i").disallow(), CrawlFrontier.NO_HOST_ROOM);
        emptied("setDelay, no room", hosts, typed(hosts, "http://i").setDelay(1), CrawlFrontier.NO_HOST_ROOM);
        CrawlFrontier urls = Made.withUrls(8, 8);
        emptied("submit, full", urls, typed(urls, "http://a/x").submit(), CrawlFrontier.FULL);
        CrawlFrontier pool = Made.withUrlChars(256);
        emptied("submit, full pool", pool, typed(pool, "http://a/x").submit(), CrawlFrontier.FULL);
        CrawlFrontier rules = Made.withRules(8);
        emptied("disallow, full", rules, typed(rules, "http://a/x").disallow(), CrawlFrontier.FULL);
        CrawlFrontier prefixes = Made.withRuleChars(128);
        emptied("disallow, full pool", prefixes, typed(prefixes, "http://a/x").disallow(), CrawlFrontier.FULL);
    }

    private static void refusedChangesNothing() {
        CrawlFrontier x = Made.busy();
        Check.submitRefused(x, "http:/e", CrawlFrontier.BAD_URL);
        Check.submitRefused(x, "http://e/?%", CrawlFrontier.BAD_URL);
        Check.submitRefused(x, "http://a/1", CrawlFrontier.DUPLICATE);
        Check.submitRefused(x, "http://d/z1", CrawlFrontier.DISALLOWED);
        Check.disallowRefused(x, "http://e:/", CrawlFrontier.BAD_URL);
        Check.disallowRefused(x, "http://a/2", CrawlFrontier.DUPLICATE);
        Check.setDelayRefused(x, "http://a/%", 16, CrawlFrontier.BAD_URL);
        Check.setDelayRefused(x, "http://a", 0, CrawlFrontier.BAD_DELAY);
        Check.setDelayRefused(x, "http://e", 17, CrawlFrontier.BAD_DELAY);
        Check.submitRefused(Made.withHosts(8), "http://i", CrawlFrontier.NO_HOST_ROOM);
        Check.disallowRefused(Made.withHosts(8), "http://i", CrawlFrontier.NO_HOST_ROOM);
        Check.setDelayRefused(Made.withHosts(8), "http://i", 1, CrawlFrontier.NO_HOST_ROOM);
        Check.submitRefused(Made.withUrls(8, 8), "http://a/x", CrawlFrontier.FULL);
        Check.submitRefused(Made.withUrlChars(256), "http://b", CrawlFrontier.FULL);
        Check.disallowRefused(Made.withRules(8), "http://b/x", CrawlFrontier.FULL);
        Check.disallowRefused(Made.withRuleChars(128), "http://b", CrawlFrontier.FULL);
        putRefused();
    }

    private static void putRefused() {
        CrawlFrontier x = Made.busy();
        Check.type(x, "0123456789".repeat(4) + "012345");
        String before = Check.everything(x);
        Check.due("put of 4 at 46", Check.put(x, "abcd"), -1);
        Check.due("state", Check.everything(x), before);
        Check.due("put of 3 at 46", Check.put(x, "abc"), -1);
        Check.due("state", Check.everything(x), before);
    }
}
