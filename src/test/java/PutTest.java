/** Promises 2 and 3: put and clear. */
public final class PutTest {
    private static final int BUFFER = CrawlFrontier.KIND_BUFFER;

    public static void main(String[] args) {
        everyPlaceAndEdge();
        fullBuffer();
        onlyTheBuffer();
        clearEmpties();
        Check.end();
    }

    private static void everyPlaceAndEdge() {
        int[] values = {33, 126, 65, 32, 127, 0, -1, 33 + 65536, Integer.MIN_VALUE, Integer.MAX_VALUE};
        for (int a : values) {
            for (int b : values) {
                for (int c : values) {
                    for (int d : values) {
                        putOnce(new int[] {a, b, c, d});
                    }
                }
            }
        }
    }

    private static void putOnce(int[] c) {
        CrawlFrontier x = new CrawlFrontier(8, 1);
        x.put('x', 0, 0, 0);
        int taken = 0;
        while (taken < 4 && c[taken] >= 33 && c[taken] <= 126) {
            taken++;
        }
        String call = "put(" + c[0] + ", " + c[1] + ", " + c[2] + ", " + c[3] + ")";
        Check.due(call, x.put(c[0], c[1], c[2], c[3]), taken);
        Check.due(call + " length", x.textLength(BUFFER, 0), 1 + taken);
        Check.due(call + " char 0", x.textChar(BUFFER, 0, 0), 'x');
        for (int i = 0; i < taken; i++) {
            Check.due(call + " char " + (i + 1), x.textChar(BUFFER, 0, i + 1), c[i]);
        }
        Check.due(call + " end", x.textChar(BUFFER, 0, 1 + taken), -1);
    }

    private static void fullBuffer() {
        for (int length = 44; length <= 48; length++) {
            for (int k = 0; k <= 4; k++) {
                CrawlFrontier x = new CrawlFrontier(8, 1);
                String text = "abcdefghijklmnopqrstuvwxyzABCDEFGHIJKLMNOPQRSTUVWXYZ".substring(0, length);
                Check.type(x, text);
                String more = "!~#:".substring(0, k);
                int got = x.put(Check.charAt(more, 0), Check.charAt(more, 1), Check.charAt(more, 2),
                        Check.charAt(more, 3));
                boolean fits = length + k <= 48;
                Check.due("put of " + k + " at " + length, got, fits ? k : -1);
                Check.due("text", Check.text(x, BUFFER, 0), fits ? text + more : text);
            }
        }
    }

    private static CrawlFrontier busy() {
        CrawlFrontier x = new CrawlFrontier(8, 3);
        Check.submit(x, "http://a/1");
        Check.submit(x, "http://a/2");
        Check.submit(x, "http://b/1");
        Check.disallow(x, "http://a/2");
        x.tick(5);
        return x;
    }

    private static void onlyTheBuffer() {
        CrawlFrontier x = busy();
        String before = Check.lists(x);
        for (int i = 0; i < 14; i++) {
            Check.due("put " + i, x.put('h', 't', 't', 'p'), i < 12 ? 4 : -1);
            Check.due("lists after put", Check.lists(x), before);
        }
    }

    private static void clearEmpties() {
        CrawlFrontier x = busy();
        String before = Check.lists(x);
        x.clear();
        Check.due("clear of an empty buffer", x.textLength(BUFFER, 0), 0);
        for (int length = 1; length <= 48; length++) {
            Check.type(x, "http://a/34567890123456789012345678901234567890123".substring(0, length));
            x.clear();
            Check.due("length after clear", x.textLength(BUFFER, 0), 0);
            Check.due("char after clear", x.textChar(BUFFER, 0, 0), -1);
            Check.due("lists after clear", Check.lists(x), before);
        }
        Check.type(x, "http://c");
        Check.due("text after clear", Check.text(x, BUFFER, 0), "http://c");
        x.clear();
        Check.due("submit after clear", x.submit(), CrawlFrontier.BAD_URL);
    }
}
