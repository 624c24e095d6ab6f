/** Promises 2 and 3: each sentence that names an edge has a test of its own. */
public final class PutEdgesTest {
    private static final int BUFFER = CrawlFrontier.KIND_BUFFER;
    // 33 and 126 are the outermost codes; the later ones would pass if a code were cut to 8 or 16 bits.
    private static final int[] OUTSIDE = {32, 127, 0, -1, -33, 128, 256 + 33, 65536 + 33, -65536 + 33,
        Integer.MIN_VALUE, Integer.MIN_VALUE + 33, Integer.MAX_VALUE};
    private static final String LONG = "abcdefghijklmnopqrstuvwxyzABCDEFGHIJKLMNOPQRSTUV";

    public static void main(String[] args) {
        Check.sentence("takes c0, c1, c2, c3 in this order, stopping before the first one outside 33..126.",
                PutEdgesTest::stopsBeforeOutside);
        Check.sentence("Let k (0..4) be the number taken.", PutEdgesTest::numberTaken);
        Check.sentence("A value in 33..126 that comes after one outside that range is not taken.",
                PutEdgesTest::nothingAfterOutside);
        Check.sentence("If buffer length + k > 48, `put` answers -1 and changes nothing; the buffer keeps its old"
                + " content.", PutEdgesTest::noRoom);
        Check.sentence("Otherwise it appends the k characters in order to the end of the buffer and answers k.",
                PutEdgesTest::appends);
        Check.sentence("When k = 0 the answer is 0 and nothing changes.", PutEdgesTest::noneTaken);
        Check.sentence("`put` never changes anything but the buffer. URLs, hosts, rules and the clock are untouched.",
                PutEdgesTest::onlyTheBuffer);
        Check.sentence("`clear()` empties the buffer, whatever it held, including when it was already empty.",
                PutEdgesTest::clearEmpties);
        Check.sentence("Nothing else changes.", PutEdgesTest::clearChangesNothingElse);
        Check.end();
    }

    private static void stopsBeforeOutside() {
        for (int outside : OUTSIDE) {
            for (int place = 0; place < 4; place++) {
                int[] c = {33, 126, 34, 125};
                c[place] = outside;
                CrawlFrontier x = new CrawlFrontier(8, 1);
                Check.due(outside + " at " + place, x.put(c[0], c[1], c[2], c[3]), place);
                Check.due("buffer", Check.buffer(x), "!~\"}".substring(0, place));
            }
        }
        for (int code = 33; code <= 126; code++) {
            CrawlFrontier x = new CrawlFrontier(8, 1);
            Check.due("put of " + code, x.put(code, code, code, code), 4);
            Check.due("buffer", Check.buffer(x), String.valueOf((char) code).repeat(4));
        }
    }

    private static void numberTaken() {
        for (int k = 0; k <= 4; k++) {
            CrawlFrontier x = new CrawlFrontier(8, 1);
            Check.due("put of " + k, Check.put(x, LONG.substring(0, k)), k);
            Check.due("length", x.textLength(BUFFER, 0), k);
        }
    }

    private static void nothingAfterOutside() {
        for (int outside : OUTSIDE) {
            CrawlFrontier x = new CrawlFrontier(8, 1);
            Check.due("first outside", x.put(outside, 'b', 'c', 'd'), 0);
            Check.due("buffer", Check.buffer(x), "");
            Check.due("second outside", x.put('a', outside, 'c', 'd'), 1);
            Check.due("buffer", Check.buffer(x), "a");
            Check.due("third outside", x.put('e', 'f', outside, 'h'), 2);
            Check.due("buffer", Check.buffer(x), "aef");
            Check.due("two outside", x.put('i', outside, outside, 'l'), 1);
            Check.due("buffer", Check.buffer(x), "aefi");
        }
    }

    private static void noRoom() {
        for (int length = 45; length <= 48; length++) {
            for (int k = 49 - length; k <= 4; k++) {
                CrawlFrontier x = new CrawlFrontier(8, 1);
                Check.type(x, LONG.substring(0, length));
                String before = Check.everything(x);
                Check.due("put of " + k + " at " + length, Check.put(x, "!~#:".substring(0, k)), -1);
                Check.due("state", Check.everything(x), before);
                Check.due("buffer", Check.buffer(x), LONG.substring(0, length));
                Check.type(x, LONG.substring(length));
                Check.due("filled after all", Check.buffer(x), LONG);
            }
        }
        // What stops the taking makes k small enough to fit.
        CrawlFrontier x = new CrawlFrontier(8, 1);
        Check.type(x, LONG.substring(0, 46));
        Check.due("two and an outside one", x.put('U', 'V', 32, 'X'), 2);
        Check.due("buffer", Check.buffer(x), LONG);
    }

    private static void appends() {
        for (int length = 0; length <= 48; length++) {
            for (int k = 1; k <= 4 && length + k <= 48; k++) {
                CrawlFrontier x = new CrawlFrontier(8, 1);
                Check.type(x, LONG.substring(0, length));
                Check.due("put of " + k + " at " + length, Check.put(x, "!~#:".substring(0, k)), k);
                Check.due("buffer", Check.buffer(x), LONG.substring(0, length) + "!~#:".substring(0, k));
            }
        }
    }

    private static void noneTaken() {
        for (int length = 0; length <= 48; length += 12) {
            for (int outside : OUTSIDE) {
                CrawlFrontier x = Made.busy();
                Check.type(x, LONG.substring(0, length));
                String before = Check.everything(x);
                Check.due("put of none at " + length, x.put(outside, 'a', 'b', 'c'), 0);
                Check.due("state", Check.everything(x), before);
            }
        }
    }

    private static void onlyTheBuffer() {
        CrawlFrontier x = Made.busy();
        String before = Check.lists(x);
        for (int i = 0; i < 14; i++) {
            Check.due("put " + i, Check.put(x, "http"), i < 12 ? 4 : -1);
            Check.due("lists", Check.lists(x), before);
        }
        Check.due("put of none", x.put(0, 0, 0, 0), 0);
        Check.due("lists", Check.lists(x), before);
    }

    private static void clearEmpties() {
        CrawlFrontier x = new CrawlFrontier(8, 1);
        x.clear();
        Check.due("length", x.textLength(BUFFER, 0), 0);
        x.clear();
        Check.due("length", x.textLength(BUFFER, 0), 0);
        for (int length = 0; length <= 48; length++) {
            Check.type(x, LONG.substring(0, length));
            x.clear();
            Check.due("length after " + length, x.textLength(BUFFER, 0), 0);
            Check.due("character after " + length, x.textChar(BUFFER, 0, 0), -1);
        }
        Check.type(x, LONG);
        Check.due("room for 48 again", Check.buffer(x), LONG);
    }

    private static void clearChangesNothingElse() {
        CrawlFrontier x = Made.busy();
        String before = Check.lists(x);
        x.clear();
        Check.due("lists", Check.lists(x), before);
        Check.type(x, "http://a/new");
        x.clear();
        Check.due("lists", Check.lists(x), before);
        Check.due("the clock goes on", x.tick(2), 2);
    }
}
