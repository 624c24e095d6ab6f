import java.util.function.Consumer;

/** Promises 8, 9 and 10: each sentence has a test of its own. */
public final class ReadersEdgesTest {
    // The later ones would pass for small numbers if they were cut to 8 or 16 bits.
    private static final int[] FAR = {Integer.MIN_VALUE, Integer.MIN_VALUE + 1, -65536, -256, -100, -2, -1, 11, 12, 32, 100,
        256, 256 + 1, 65536, 65536 + 1, Integer.MAX_VALUE - 1, Integer.MAX_VALUE};
    private static final int URL = CrawlFrontier.KIND_URL;
    private static final int HOST = CrawlFrontier.KIND_HOST;
    private static final int RULE = CrawlFrontier.KIND_RULE;
    private static final int BUFFER = CrawlFrontier.KIND_BUFFER;

    public static void main(String[] args) {
        counts();
        texts();
        infos();
        Check.end();
    }

    // ---- promise 8 ----

    private static void counts() {
        Check.sentence("`count(what)` changes nothing and answers:", ReadersEdgesTest::countChangesNothing);
        Check.sentence("| `COUNT_URLS` | admitted URLs |", () -> counted(CrawlFrontier.COUNT_URLS, 0, 5, 6));
        Check.sentence("| `COUNT_HOSTS` | hosts |", () -> counted(CrawlFrontier.COUNT_HOSTS, 0, 4, 5));
        Check.sentence("| `COUNT_RULES` | rules |", () -> counted(CrawlFrontier.COUNT_RULES, 0, 2, 3));
        Check.sentence("| `COUNT_TIME` | clock T |", () -> counted(CrawlFrontier.COUNT_TIME, 0, 2, 3));
        Check.sentence("| `COUNT_QUEUED` | URLs in `STATE_QUEUED` |",
                () -> counted(CrawlFrontier.COUNT_QUEUED, 0, 2, 1));
        Check.sentence("| `COUNT_DISPATCHED` | URLs in `STATE_DISPATCHED` |",
                () -> counted(CrawlFrontier.COUNT_DISPATCHED, 0, 2, 3));
        Check.sentence("| `COUNT_BLOCKED` | URLs in `STATE_BLOCKED` |",
                () -> counted(CrawlFrontier.COUNT_BLOCKED, 0, 1, 2));
        Check.sentence("| `COUNT_URL_CHARS` | sum of URL text lengths |",
                () -> counted(CrawlFrontier.COUNT_URL_CHARS, 0, 56, 65));
        Check.sentence("| `COUNT_RULE_CHARS` | sum of rule prefix lengths |",
                () -> counted(CrawlFrontier.COUNT_RULE_CHARS, 0, 4, 6));
        Check.sentence("| `COUNT_MAX_URLS` | clamped maxUrls |",
                () -> counted(CrawlFrontier.COUNT_MAX_URLS, 32, 12, 12));
        Check.sentence("| `COUNT_DEFAULT_DELAY` | clamped defaultDelay |",
                () -> counted(CrawlFrontier.COUNT_DEFAULT_DELAY, 1, 3, 3));
        Check.sentence("Any other what (negative, or 11 and above) gives -1.", ReadersEdgesTest::otherWhat);
        Check.sentence("`COUNT_QUEUED` + `COUNT_DISPATCHED` + `COUNT_BLOCKED` = `COUNT_URLS`;",
                () -> atAllTimes(ReadersEdgesTest::statesAddUp));
        Check.sentence("`COUNT_QUEUED` is the sum of all hosts' `F_QUEUED`.",
                () -> atAllTimes(ReadersEdgesTest::queuesAddUp));
    }

    private static void countChangesNothing() {
        CrawlFrontier x = Made.busy();
        Check.type(x, "http://e");
        String before = Check.everything(x);
        for (int what = -20; what <= 20; what++) {
            x.count(what);
        }
        for (int what : FAR) {
            x.count(what);
        }
        Check.due("buffer", Check.buffer(x), "http://e");
        Check.due("state", Check.everything(x), before);
    }

    // On a new object, on the busy one, and after one more URL, rule and step there.
    private static void counted(int what, int fresh, int busy, int more) {
        Check.due("fresh", new CrawlFrontier(99, -99).count(what), fresh);
        CrawlFrontier x = Made.busy();
        Check.due("busy", x.count(what), busy);
        Check.submit(x, "http://e");
        x.tick(1);
        Check.disallow(x, "http://a/3");
        Check.due("more", x.count(what), more);
        Check.due("the same again", x.count(what), more);
    }

    private static void otherWhat() {
        CrawlFrontier[] objects = {new CrawlFrontier(8, 1), Made.busy()};
        for (CrawlFrontier x : objects) {
            for (int what : FAR) {
                Check.due("count of " + what, x.count(what), -1);
            }
            for (int bit = 4; bit < 32; bit++) {
                for (int what = 0; what <= 10; what++) {
                    Check.due("count of a far " + what, x.count(what | 1 << bit), -1);
                }
            }
            Check.due("10 is none of them", x.count(10) > 0 ? 1 : 0, 1);
            Check.due("0 is none of them", x.count(0) >= 0 ? 1 : 0, 1);
        }
    }

    private static void atAllTimes(Consumer<CrawlFrontier> holds) {
        CrawlFrontier x = new CrawlFrontier(16, 2);
        holds.accept(x);
        String[] texts = {"http://a/1", "http://b/1", "http://a/2", "http://a/3", "http://a/1", "bad", "", "http://b/2",
            "http://a/11", "http://d/x", "http://e/y", "http://f", "http://g", "http://h", "http://i"};
        for (int i = 0; i < texts.length; i++) {
            Check.submit(x, texts[i]);
            holds.accept(x);
            if (i % 4 == 1) {
                Check.disallow(x, texts[i]);
                holds.accept(x);
            }
            if (i % 4 == 3) {
                x.tick(1);
                holds.accept(x);
            }
            Check.setDelay(x, texts[i], i);
            holds.accept(x);
        }
        int[] states = {CrawlFrontier.COUNT_QUEUED, CrawlFrontier.COUNT_DISPATCHED, CrawlFrontier.COUNT_BLOCKED};
        for (int state : states) {
            Check.due("some are in state " + state, x.count(state) > 0 ? 1 : 0, 1);
        }
        x.tick(64);
        holds.accept(x);
    }

    private static void statesAddUp(CrawlFrontier x) {
        Check.due("sum", x.count(CrawlFrontier.COUNT_QUEUED) + x.count(CrawlFrontier.COUNT_DISPATCHED)
                + x.count(CrawlFrontier.COUNT_BLOCKED), x.count(CrawlFrontier.COUNT_URLS));
    }

    private static void queuesAddUp(CrawlFrontier x) {
        int sum = 0;
        for (int host = 0; host < x.count(CrawlFrontier.COUNT_HOSTS); host++) {
            sum += Check.queued(x, host);
        }
        Check.due("sum", sum, x.count(CrawlFrontier.COUNT_QUEUED));
    }

    // ---- promise 9 ----

    private static void texts() {
        Check.sentence("`textLength(kind, index)` changes nothing and answers:", ReadersEdgesTest::textChangesNothing);
        Check.sentence("`KIND_URL`: the length of the canonical text of URL index;", () -> lengths(Made.busy(), URL, 10,
                10, 10, 10, 16));
        Check.sentence("`KIND_HOST`: the length of the name of host index;", ReadersEdgesTest::hostLengths);
        Check.sentence("`KIND_RULE`: the length of the prefix of rule index;", ReadersEdgesTest::ruleLengths);
        Check.sentence("`KIND_BUFFER`: the buffer length. Here index is ignored and may be any int.",
                ReadersEdgesTest::bufferLengths);
        Check.sentence("For an unknown kind,", ReadersEdgesTest::unknownKind);
        Check.sentence("or an index outside 0..(count of that kind)-1, the answer is -1.",
                ReadersEdgesTest::indexOutside);
        Check.sentence("`textChar(kind, index, i)` changes nothing.", ReadersEdgesTest::charChangesNothing);
        Check.sentence("It answers the code of character i (counted from 0) of the text that `textLength(kind, index)`"
                + " measures.", ReadersEdgesTest::characters);
        Check.sentence("It answers -1 when `textLength(kind, index)` is -1,", ReadersEdgesTest::noText);
        Check.sentence("or when i is outside 0..length-1;", ReadersEdgesTest::placeOutside);
        Check.sentence("this includes any i on an empty buffer.", ReadersEdgesTest::emptyBuffer);
        Check.sentence("the canonical text, for URLs;", () -> shown("http://a/x/../%7e", URL, "http://a/~"));
        Check.sentence("the lowercased host name, for hosts;", () -> shown("http://A-Z.09:81/", HOST, "a-z.09"));
        Check.sentence("the canonical path-and-query computed by `disallow`, for rules;",
                () -> shown("http://a:81/x/../%7e?%2f#f", RULE, "/~?%2F"));
        Check.sentence("the characters put so far, in order, for the buffer.", ReadersEdgesTest::charactersPut);
    }

    private static void textChangesNothing() {
        CrawlFrontier x = Made.busy();
        Check.type(x, "http://e");
        String before = Check.everything(x);
        for (int kind = -2; kind <= 5; kind++) {
            for (int index = -2; index <= 40; index++) {
                x.textLength(kind, index);
            }
        }
        Check.due("buffer", Check.buffer(x), "http://e");
        Check.due("state", Check.everything(x), before);
    }

    private static void lengths(CrawlFrontier x, int kind, int... due) {
        for (int index = 0; index < due.length; index++) {
            Check.due("length of " + index, x.textLength(kind, index), due[index]);
        }
        Check.due("length after the last", x.textLength(kind, due.length), -1);
    }

    private static void hostLengths() {
        CrawlFrontier x = new CrawlFrontier(8, 1);
        Check.submit(x, "http://a");
        Check.disallow(x, "http://abcdefghijklmnop/p");
        Check.setDelay(x, "http://ab:81", 1);
        lengths(x, HOST, 1, 16, 2);
    }

    private static void ruleLengths() {
        CrawlFrontier x = new CrawlFrontier(8, 1);
        Check.disallow(x, "http://a");
        Check.disallow(x, "http://a?" + "x".repeat(39));
        Check.disallow(x, "https://abc:81/x/../%7e#f");
        lengths(x, RULE, 1, 41, 2);
    }

    private static void bufferLengths() {
        for (int length = 0; length <= 48; length++) {
            CrawlFrontier x = new CrawlFrontier(8, 1);
            Check.type(x, "x".repeat(length));
            for (int index = -3; index <= 10; index++) {
                Check.due("length at " + index, x.textLength(BUFFER, index), length);
            }
            for (int index : FAR) {
                Check.due("length at " + index, x.textLength(BUFFER, index), length);
                Check.due("character at " + index, x.textChar(BUFFER, index, 0), length == 0 ? -1 : 'x');
            }
        }
    }

    private static void unknownKind() {
        CrawlFrontier x = Made.busy();
        Check.type(x, "http://e");
        Check.due("4", x.textLength(4, 0), -1);
        Check.due("-1", x.textLength(-1, 0), -1);
        for (int kind : FAR) {
            for (int index = -1; index <= 4; index++) {
                Check.due("length of kind " + kind, x.textLength(kind, index), -1);
                Check.due("character of kind " + kind, x.textChar(kind, index, 0), -1);
            }
        }
    }

    private static void indexOutside() {
        CrawlFrontier[] objects = {new CrawlFrontier(8, 1), Made.busy(), Made.withHosts(8), Made.withRules(8),
            Made.withUrls(26, 26)};
        int[] counts = {CrawlFrontier.COUNT_URLS, CrawlFrontier.COUNT_HOSTS, CrawlFrontier.COUNT_RULES};
        for (CrawlFrontier x : objects) {
            Check.type(x, "http://e");
            for (int kind = 0; kind < 3; kind++) {
                int size = x.count(counts[kind]);
                if (size > 0) {
                    Check.due("first", x.textLength(kind, 0) > 0 ? 1 : 0, 1);
                    Check.due("last", x.textLength(kind, size - 1) > 0 ? 1 : 0, 1);
                }
                Check.due("before the first", x.textLength(kind, -1), -1);
                for (int index = size; index <= size + 40; index++) {
                    Check.due("length at " + index + " of " + size, x.textLength(kind, index), -1);
                }
                for (int index : FAR) {
                    if (index < 0 || index > 26) {
                        Check.due("length at " + index, x.textLength(kind, index), -1);
                    }
                }
            }
        }
    }

    private static void charChangesNothing() {
        CrawlFrontier x = Made.busy();
        Check.type(x, "http://e");
        String before = Check.everything(x);
        for (int kind = -2; kind <= 5; kind++) {
            for (int index = -2; index <= 10; index++) {
                for (int i = -2; i <= 50; i++) {
                    x.textChar(kind, index, i);
                }
            }
        }
        Check.due("buffer", Check.buffer(x), "http://e");
        Check.due("state", Check.everything(x), before);
    }

    private static void spelled(CrawlFrontier x, int kind, int index, String due) {
        Check.due("length", x.textLength(kind, index), due.length());
        for (int i = 0; i < due.length(); i++) {
            Check.due("character " + i + " of " + due, x.textChar(kind, index, i), due.charAt(i));
        }
    }

    private static void characters() {
        CrawlFrontier x = Made.busy();
        Check.type(x, "!~Az09");
        spelled(x, URL, 0, "http://a/1");
        spelled(x, URL, 4, "https://c:81/x?y");
        spelled(x, HOST, 0, "a");
        spelled(x, HOST, 3, "d");
        spelled(x, RULE, 0, "/2");
        spelled(x, RULE, 1, "/z");
        spelled(x, BUFFER, 0, "!~Az09");
        CrawlFrontier full = Made.withUrlChars(256);
        spelled(full, URL, 0, Made.text(48, 'p'));
        spelled(full, URL, 5, Made.text(16, 'u'));
        CrawlFrontier rules = Made.withRuleChars(128);
        spelled(rules, RULE, 0, "/" + "p".repeat(39));
        spelled(rules, RULE, 3, "/" + "s".repeat(7));
        CrawlFrontier hosts = new CrawlFrontier(8, 1);
        for (int i = 0; i < 8; i++) {
            Check.setDelay(hosts, "http://abcdefghijklmno" + i, 1);
        }
        for (int i = 0; i < 8; i++) {
            spelled(hosts, HOST, i, "abcdefghijklmno" + i);
        }
    }

    private static void noText() {
        CrawlFrontier x = Made.busy();
        int[][] none = {{URL, 5}, {HOST, 4}, {RULE, 2}, {URL, -1}, {HOST, -1}, {RULE, -1}, {4, 0}, {-1, 0},
            {URL, Integer.MAX_VALUE}, {HOST, Integer.MIN_VALUE}, {RULE, 1 << 28}, {HOST, 1 << 28}};
        for (int[] place : none) {
            Check.due("length", x.textLength(place[0], place[1]), -1);
            for (int i = -2; i <= 50; i++) {
                Check.due("character " + i, x.textChar(place[0], place[1], i), -1);
            }
            for (int i : FAR) {
                Check.due("character " + i, x.textChar(place[0], place[1], i), -1);
            }
        }
    }

    private static void placeOutside() {
        CrawlFrontier x = Made.busy();
        Check.type(x, "http://e");
        int[] sizes = {5, 4, 2, 1};
        for (int kind = 0; kind < 4; kind++) {
            for (int index = 0; index < sizes[kind]; index++) {
                int length = x.textLength(kind, index);
                Check.due("the first", x.textChar(kind, index, 0) > 32 ? 1 : 0, 1);
                Check.due("the last", x.textChar(kind, index, length - 1) > 32 ? 1 : 0, 1);
                Check.due("before the first", x.textChar(kind, index, -1), -1);
                for (int i = length; i <= 300; i++) {
                    Check.due("character " + i + " of " + length, x.textChar(kind, index, i), -1);
                }
                for (int i : FAR) {
                    if (i < 0 || i > 16) {
                        Check.due("character " + i, x.textChar(kind, index, i), -1);
                    }
                }
            }
        }
    }

    private static void emptyBuffer() {
        CrawlFrontier cleared = Made.busy();
        Check.type(cleared, "x".repeat(48));
        cleared.clear();
        CrawlFrontier submitted = Made.busy();
        Check.submit(submitted, "http://e/" + "x".repeat(39));
        CrawlFrontier[] objects = {new CrawlFrontier(8, 1), cleared, submitted};
        for (CrawlFrontier x : objects) {
            for (int i = -2; i <= 50; i++) {
                Check.due("character " + i, x.textChar(BUFFER, 0, i), -1);
            }
            for (int i : FAR) {
                Check.due("character " + i, x.textChar(BUFFER, i, i), -1);
            }
        }
    }

    private static void shown(String typed, int kind, String due) {
        CrawlFrontier x = new CrawlFrontier(8, 1);
        Check.submit(x, typed);
        Check.disallow(x, typed);
        spelled(x, kind, 0, due);
    }

    private static void charactersPut() {
        CrawlFrontier x = new CrawlFrontier(8, 1);
        Check.put(x, "Ht");
        spelled(x, BUFFER, 0, "Ht");
        Check.put(x, "%7e#");
        spelled(x, BUFFER, 0, "Ht%7e#");
        x.put(32, 'x', 'x', 'x');
        spelled(x, BUFFER, 0, "Ht%7e#");
        Check.put(x, "/..");
        spelled(x, BUFFER, 0, "Ht%7e#/..");
        x.clear();
        Check.put(x, "a");
        spelled(x, BUFFER, 0, "a");
    }

    // ---- promise 10 ----

    private static void infos() {
        Check.sentence("`info(kind, index, field)` changes nothing and answers:", ReadersEdgesTest::infoChangesNothing);
        Check.sentence("`F_STATE`: its state;", () -> fields(URL, CrawlFrontier.F_STATE, 2, 3, 1, 2, 1));
        Check.sentence("`F_HOST`: its host id;", () -> fields(URL, CrawlFrontier.F_HOST, 0, 0, 0, 1, 2));
        Check.sentence("`F_TIME`: its dispatch time, -1 if not dispatched (also -1 for blocked URLs).",
                () -> fields(URL, CrawlFrontier.F_TIME, 0, -1, -1, 1, -1));
        Check.sentence("`F_QUEUED`: the number of its URLs in `STATE_QUEUED`;",
                () -> fields(HOST, CrawlFrontier.F_QUEUED, 1, 0, 1, 0));
        Check.sentence("`F_DELAY`: its delay;", () -> fields(HOST, CrawlFrontier.F_DELAY, 3, 9, 3, 3));
        Check.sentence("`F_NEXT`: its next-allowed time;", () -> fields(HOST, CrawlFrontier.F_NEXT, 3, 10, 0, 0));
        Check.sentence("`F_SENT`: its count of dispatches, which equals the number of its URLs in `STATE_DISPATCHED`.",
                ReadersEdgesTest::sent);
        Check.sentence("`KIND_RULE` with `F_HOST`: its host id.", () -> fields(RULE, CrawlFrontier.F_HOST, 0, 3));
        Check.sentence("Any other kind (including `KIND_BUFFER`)", ReadersEdgesTest::otherKind);
        Check.sentence("or field,", ReadersEdgesTest::otherField);
        Check.sentence("or an index outside 0..(count of that kind)-1, gives -1.", ReadersEdgesTest::infoIndexOutside);
    }

    private static void infoChangesNothing() {
        CrawlFrontier x = Made.busy();
        Check.type(x, "http://e");
        String before = Check.everything(x);
        for (int kind = -2; kind <= 5; kind++) {
            for (int index = -2; index <= 40; index++) {
                for (int field = -2; field <= 9; field++) {
                    x.info(kind, index, field);
                }
            }
        }
        Check.due("buffer", Check.buffer(x), "http://e");
        Check.due("state", Check.everything(x), before);
    }

    private static void fields(int kind, int field, int... due) {
        CrawlFrontier x = Made.busy();
        for (int index = 0; index < due.length; index++) {
            Check.due("info(" + kind + ", " + index + ", " + field + ")", x.info(kind, index, field), due[index]);
        }
        Check.due("after the last", x.info(kind, due.length, field), -1);
        Check.due("before the first", x.info(kind, -1, field), -1);
    }

    private static void sent() {
        fields(HOST, CrawlFrontier.F_SENT, 1, 1, 0, 0);
        atAllTimes(x -> {
            for (int host = 0; host < x.count(CrawlFrontier.COUNT_HOSTS); host++) {
                int dispatched = 0;
                for (int url = 0; url < x.count(CrawlFrontier.COUNT_URLS); url++) {
                    boolean own = Check.host(x, url) == host;
                    dispatched += own && Check.state(x, url) == CrawlFrontier.STATE_DISPATCHED ? 1 : 0;
                }
                Check.due("sent by " + host, Check.sent(x, host), dispatched);
            }
        });
    }

    private static void otherKind() {
        CrawlFrontier x = Made.busy();
        Check.type(x, "http://e");
        for (int field = -2; field <= 9; field++) {
            for (int index = -1; index <= 8; index++) {
                Check.due("of the buffer", x.info(BUFFER, index, field), -1);
                Check.due("of kind 4", x.info(4, index, field), -1);
                for (int kind : FAR) {
                    Check.due("of kind " + kind, x.info(kind, index, field), -1);
                }
            }
        }
    }

    private static void otherField() {
        CrawlFrontier x = Made.busy();
        int[] sizes = {5, 4, 2};
        int[] least = {CrawlFrontier.F_STATE, CrawlFrontier.F_QUEUED, CrawlFrontier.F_HOST};
        int[] most = {CrawlFrontier.F_TIME, CrawlFrontier.F_SENT, CrawlFrontier.F_HOST};
        for (int kind = 0; kind < 3; kind++) {
            for (int index = 0; index < sizes[kind]; index++) {
                for (int field = -2; field <= 9; field++) {
                    if (field < least[kind] || field > most[kind]) {
                        Check.due("field " + field + " of kind " + kind, x.info(kind, index, field), -1);
                    }
                }
                for (int field : FAR) {
                    Check.due("field " + field + " of kind " + kind, x.info(kind, index, field), -1);
                }
            }
        }
    }

    private static void infoIndexOutside() {
        CrawlFrontier[] objects = {new CrawlFrontier(8, 1), Made.busy(), Made.withHosts(8), Made.withRules(8),
            Made.withUrls(26, 26)};
        int[] counts = {CrawlFrontier.COUNT_URLS, CrawlFrontier.COUNT_HOSTS, CrawlFrontier.COUNT_RULES};
        int[] known = {CrawlFrontier.F_STATE, CrawlFrontier.F_DELAY, CrawlFrontier.F_HOST};
        for (CrawlFrontier x : objects) {
            for (int kind = 0; kind < 3; kind++) {
                int size = x.count(counts[kind]);
                if (size > 0) {
                    Check.due("first", x.info(kind, 0, known[kind]) >= 0 ? 1 : 0, 1);
                    Check.due("last", x.info(kind, size - 1, known[kind]) >= 0 ? 1 : 0, 1);
                }
                for (int field = 0; field <= 6; field++) {
                    Check.due("before the first", x.info(kind, -1, field), -1);
                    for (int index = size; index <= size + 40; index++) {
                        Check.due("at " + index + " of " + size, x.info(kind, index, field), -1);
                    }
                    Check.due("at the least int", x.info(kind, Integer.MIN_VALUE, field), -1);
                    Check.due("at the greatest int", x.info(kind, Integer.MAX_VALUE, field), -1);
                }
            }
        }
    }
}
