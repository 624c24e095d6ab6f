import java.lang.reflect.Field;
import java.lang.reflect.Method;
import java.lang.reflect.Modifier;
import java.util.Arrays;
import java.util.Set;
import java.util.TreeSet;
import java.util.regex.Matcher;
import java.util.regex.Pattern;

/** The sections "What it is" and "The public face", sentence by sentence. */
public final class FaceEdgesTest {
    private static final String STATES = "URL states: `STATE_QUEUED = 1`, `STATE_DISPATCHED = 2`, `STATE_BLOCKED = 3`.";
    private static final String REFUSALS = "Refusal answers: `BAD_URL = -1`, `DUPLICATE = -2`, `DISALLOWED = -3`,"
            + " `FULL = -4`, `NO_HOST_ROOM = -5`, `BAD_DELAY = -6`.";
    private static final String KINDS = "Text kinds: `KIND_URL = 0`, `KIND_HOST = 1`, `KIND_RULE = 2`,"
            + " `KIND_BUFFER = 3`.";
    private static final String FIELDS = "Fields: `F_STATE = 0`, `F_HOST = 1`, `F_TIME = 2`, `F_QUEUED = 3`,"
            + " `F_DELAY = 4`, `F_NEXT = 5`, `F_SENT = 6`.";
    private static final String COUNTERS = "Counters: `COUNT_URLS = 0`, `COUNT_HOSTS = 1`, `COUNT_RULES = 2`,"
            + " `COUNT_TIME = 3`, `COUNT_QUEUED = 4`, `COUNT_DISPATCHED = 5`, `COUNT_BLOCKED = 6`,"
            + " `COUNT_URL_CHARS = 7`, `COUNT_RULE_CHARS = 8`, `COUNT_MAX_URLS = 9`, `COUNT_DEFAULT_DELAY = 10`.";
    private static final String METHODS = "public int put(int c0, int c1, int c2, int c3)"
            + " public void clear()"
            + " public int submit()"
            + " public int disallow()"
            + " public int setDelay(int delay)"
            + " public int tick(int n)"
            + " public int count(int what)"
            + " public int textLength(int kind, int index)"
            + " public int textChar(int kind, int index, int i)"
            + " public int info(int kind, int index, int field)";

    public static void main(String[] args) {
        whatItIs();
        constants();
        face();
        Check.end();
    }

    // ---- What it is ----

    private static void whatItIs() {
        Check.sentence("URLs arrive as characters, a few per call, into a buffer.", FaceEdgesTest::characters);
        Check.sentence("On submission the buffer text is canonicalised, deduplicated against every admitted URL,"
                + " checked against per-host disallow-prefix rules, and admitted into a list where it waits, queued"
                + " per host, until a clock releases it.", FaceEdgesTest::submission);
        Check.sentence("Disallow rules are also given as URLs and immediately block the queued URLs they match.",
                FaceEdgesTest::rules);
        Check.sentence("Every host has a crawl delay.", FaceEdgesTest::delays);
        Check.sentence("A ticking clock releases at most one URL per step.", FaceEdgesTest::onePerStep);
        Check.sentence("Among the hosts that are ready, it chooses the one with the earliest next-allowed time, with"
                + " ties going to the smallest host id.", FaceEdgesTest::earliestHost);
    }

    private static void characters() {
        String text = "https://ab.c:8080/d/e?f=g";
        for (int few = 1; few <= 4; few++) {
            CrawlFrontier x = new CrawlFrontier(8, 1);
            for (int from = 0; from < text.length(); from += few) {
                String piece = text.substring(from, Math.min(text.length(), from + few));
                Check.due("put of " + piece, Check.put(x, piece), piece.length());
                Check.due("buffer", Check.buffer(x), text.substring(0, from) + piece);
            }
            Check.due("submit", x.submit(), 0);
            Check.due("text", Check.text(x, CrawlFrontier.KIND_URL, 0), text);
        }
    }

    private static void submission() {
        CrawlFrontier x = new CrawlFrontier(8, 2);
        Check.disallow(x, "http://b/no");
        Check.due("submit", Check.submit(x, "HTTP://A:080/x/../%6eo"), 0);
        Check.due("canonicalised", Check.text(x, CrawlFrontier.KIND_URL, 0), "http://a/no");
        Check.submitRefused(x, "http://a/no#again", CrawlFrontier.DUPLICATE);
        Check.submitRefused(x, "http://b/x/../%6eone", CrawlFrontier.DISALLOWED);
        Check.due("submit", Check.submit(x, "http://a/2"), 1);
        Check.due("submit", Check.submit(x, "http://b/n"), 2);
        Check.due("queue of b", Check.queued(x, 0), 1);
        Check.due("queue of a", Check.queued(x, 1), 2);
        Check.due("released", x.tick(1), 1);
        Check.due("queue of b", Check.queued(x, 0), 0);
        Check.due("released", x.tick(1), 1);
        Check.due("queue of a", Check.queued(x, 1), 1);
        Check.due("released", x.tick(64), 1);
        Check.due("queue of a", Check.queued(x, 1), 0);
        Check.due("times", Check.time(x, 2) + " " + Check.time(x, 0) + " " + Check.time(x, 1), "0 1 3");
    }

    private static void rules() {
        CrawlFrontier x = new CrawlFrontier(8, 1);
        Check.submit(x, "http://a/p/1");
        Check.submit(x, "https://a:8/p/2?q");
        Check.submit(x, "http://a/P/3");
        Check.submit(x, "http://b/p/4");
        Check.due("disallow", Check.disallow(x, "HTTPS://A:9/./%70#f"), 2);
        Check.due("states before any step", Check.state(x, 0) + " " + Check.state(x, 1) + " " + Check.state(x, 2) + " "
                + Check.state(x, 3), "3 3 1 1");
        Check.due("released", x.tick(64), 2);
        Check.due("times", Check.time(x, 0) + " " + Check.time(x, 1) + " " + Check.time(x, 2) + " " + Check.time(x, 3),
                "-1 -1 0 1");
    }

    private static void delays() {
        for (int delay = 1; delay <= 16; delay++) {
            CrawlFrontier x = new CrawlFrontier(8, delay);
            for (int i = 0; i < 6; i++) {
                Check.submit(x, "http://" + (i % 2 == 0 ? "a" : "b") + "/" + i);
            }
            int other = 17 - delay;
            Check.setDelay(x, "http://b", other);
            x.tick(64);
            for (int i = 2; i < 6; i += 2) {
                int apart = Check.time(x, i) - Check.time(x, i - 2);
                int apartOther = Check.time(x, i + 1) - Check.time(x, i - 1);
                Check.due("delay " + delay + " kept by URL " + i, apart >= delay ? 1 : 0, 1);
                Check.due("delay " + other + " kept by URL " + (i + 1), apartOther >= other ? 1 : 0, 1);
                // One host can hold the other up by a step, not by more.
                Check.due("delay " + delay + " not outstayed by URL " + i, apart <= delay + 1 ? 1 : 0, 1);
                Check.due("delay " + other + " not outstayed by URL " + (i + 1), apartOther <= other + 1 ? 1 : 0, 1);
            }
        }
    }

    private static void onePerStep() {
        CrawlFrontier x = new CrawlFrontier(8, 1);
        for (int i = 0; i < 8; i++) {
            Check.submit(x, "http://" + (char) ('a' + i));
        }
        for (int step = 0; step < 8; step++) {
            Check.due("released in step " + step, x.tick(1), 1);
            Check.due("released so far", x.count(CrawlFrontier.COUNT_DISPATCHED), step + 1);
            Check.due("clock", x.count(CrawlFrontier.COUNT_TIME), step + 1);
        }
        Check.due("released of none", x.tick(1), 0);
    }

    /** Three hosts with three URLs each, and every way to give them delays of 1 to 4. */
    private static void earliestHost() {
        for (int way = 0; way < 64; way++) {
            int[] delay = {1 + way % 4, 1 + way / 4 % 4, 1 + way / 16};
            CrawlFrontier x = new CrawlFrontier(9, 1);
            for (int i = 0; i < 9; i++) {
                Check.submit(x, "http://" + (char) ('a' + i % 3) + "/" + i);
            }
            for (int host = 0; host < 3; host++) {
                Check.setDelay(x, "http://" + (char) ('a' + host), delay[host]);
            }
            x.tick(32);
            int[] next = new int[3];
            int[] sent = new int[3];
            for (int time = 0; time < 32; time++) {
                int best = -1;
                for (int host = 2; host >= 0; host--) {
                    if (sent[host] < 3 && next[host] <= time && (best < 0 || next[host] <= next[best])) {
                        best = host;
                    }
                }
                if (best >= 0) {
                    Check.due("delays " + Arrays.toString(delay) + ": time of URL " + (best + 3 * sent[best]),
                            Check.time(x, best + 3 * sent[best]), time);
                    sent[best]++;
                    next[best] = time + delay[best];
                }
            }
            Check.due("released", x.count(CrawlFrontier.COUNT_DISPATCHED), 9);
        }
    }

    // ---- the constants ----

    private static void constants() {
        Check.sentence("Public constants (all `public static final int`)", FaceEdgesTest::noOtherConstants);
        for (String words : new String[] {STATES, REFUSALS, KINDS, FIELDS, COUNTERS}) {
            Check.sentence(words, () -> namedIn(words));
        }
    }

    private static void namedIn(String words) {
        Matcher named = Pattern.compile("`(\\w+) = (-?\\d+)`").matcher(words);
        while (named.find()) {
            Check.due(named.group(1), valueOf(named.group(1)), named.group(2));
        }
    }

    private static String valueOf(String constant) {
        try {
            return String.valueOf(CrawlFrontier.class.getField(constant).get(null));
        } catch (ReflectiveOperationException missing) {
            return missing.toString();
        }
    }

    private static void noOtherConstants() {
        Set<String> due = new TreeSet<>();
        Matcher named = Pattern.compile("`(\\w+) = ").matcher(STATES + REFUSALS + KINDS + FIELDS + COUNTERS);
        while (named.find()) {
            due.add("public static final int " + named.group(1));
        }
        Set<String> found = new TreeSet<>();
        for (Field field : CrawlFrontier.class.getDeclaredFields()) {
            if (!Modifier.isPrivate(field.getModifiers())) {
                found.add(Modifier.toString(field.getModifiers()) + " " + field.getType() + " " + field.getName());
            }
        }
        Check.due("constants", found.toString(), due.toString());
    }

    // ---- The public face ----

    private static void face() {
        Check.sentence("public final class CrawlFrontier", () -> Check.due("class",
                Modifier.toString(CrawlFrontier.class.getModifiers()) + " " + CrawlFrontier.class,
                "public final class CrawlFrontier"));
        Check.sentence("public CrawlFrontier(int maxUrls, int defaultDelay)", () -> Check.due("constructors",
                Arrays.toString(CrawlFrontier.class.getDeclaredConstructors()), "[public CrawlFrontier(int,int)]"));
        Check.sentence(METHODS, FaceEdgesTest::methods);
    }

    private static void methods() {
        Set<String> due = new TreeSet<>();
        Matcher named = Pattern.compile("public (int|void) (\\w+)\\(([^)]*)\\)").matcher(METHODS);
        while (named.find()) {
            int parameters = named.group(3).isEmpty() ? 0 : named.group(3).split(",").length;
            String types = String.join(",", "int ".repeat(parameters).trim().split(" "));
            due.add("public " + named.group(1) + " CrawlFrontier." + named.group(2) + "(" + types + ")");
        }
        Set<String> found = new TreeSet<>();
        for (Method method : CrawlFrontier.class.getDeclaredMethods()) {
            if (!Modifier.isPrivate(method.getModifiers())) {
                found.add(method.toString());
            }
        }
        Check.due("methods", found.toString(), due.toString());
    }
}
