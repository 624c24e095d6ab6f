/** What the tests of the project share: telling wrong answers, and moving texts in and out. */
final class Check {
    // With -Dsentence=words, only the sentences that hold these words are tested.
    private static final String ONLY = System.getProperty("sentence", "");

    private static int asked = 0;
    private static int wrong = 0;

    private Check() {
    }

    static void due(String call, long got, long want) {
        asked++;
        if (got != want) {
            wrong++;
            System.out.println(call + " answered " + got + ", due is " + want);
        }
    }

    static void due(String call, String got, String want) {
        asked++;
        if (!got.equals(want)) {
            wrong++;
            System.out.println(call + " answered\n  " + got + ", due is\n  " + want);
        }
    }

    /** The test of one sentence of the document, told in the document's words. */
    static void sentence(String words, Runnable test) {
        if (!words.contains(ONLY)) {
            return;
        }
        int askedBefore = asked;
        int wrongBefore = wrong;
        try {
            test.run();
        } catch (RuntimeException thrown) {
            wrong++;
            System.out.println("a call threw " + thrown);
        }
        if (asked == askedBefore) {
            wrong++;
            System.out.println("nothing was asked");
        }
        if (wrong != wrongBefore) {
            System.out.println("  so this does not hold: " + words);
        }
    }

    static void end() {
        if (asked == 0) {
            wrong++;
        }
        System.out.println(wrong == 0 ? "all answers are as due" : wrong + " answers are not as due");
        if (wrong != 0) {
            System.exit(1);
        }
    }

    static int charAt(String text, int i) {
        return i < text.length() ? text.charAt(i) : 0;
    }

    static int put(CrawlFrontier x, String text) {
        return x.put(charAt(text, 0), charAt(text, 1), charAt(text, 2), charAt(text, 3));
    }

    static void type(CrawlFrontier x, String text) {
        for (int i = 0; i < text.length(); i += 4) {
            int due = Math.min(4, text.length() - i);
            due("put at " + i + " of " + text, put(x, text.substring(i)), due);
        }
    }

    static int submit(CrawlFrontier x, String text) {
        type(x, text);
        int answer = x.submit();
        due("buffer length after submit of " + text, x.textLength(CrawlFrontier.KIND_BUFFER, 0), 0);
        return answer;
    }

    static int disallow(CrawlFrontier x, String text) {
        type(x, text);
        int answer = x.disallow();
        due("buffer length after disallow of " + text, x.textLength(CrawlFrontier.KIND_BUFFER, 0), 0);
        return answer;
    }

    static int setDelay(CrawlFrontier x, String text, int delay) {
        type(x, text);
        int answer = x.setDelay(delay);
        due("buffer length after setDelay of " + text, x.textLength(CrawlFrontier.KIND_BUFFER, 0), 0);
        return answer;
    }

    static void submitRefused(CrawlFrontier x, String text, int due) {
        String before = everything(x);
        due("submit of " + text, submit(x, text), due);
        due("state after " + text, everything(x), before);
    }

    static void disallowRefused(CrawlFrontier x, String text, int due) {
        String before = everything(x);
        due("disallow of " + text, disallow(x, text), due);
        due("state after " + text, everything(x), before);
    }

    static void setDelayRefused(CrawlFrontier x, String text, int delay, int due) {
        String before = everything(x);
        due("setDelay of " + text + " to " + delay, setDelay(x, text, delay), due);
        due("state after " + text, everything(x), before);
    }

    /** The three calls that read the buffer all make this of it. */
    static void gives(String text, String canonical) {
        CrawlFrontier x = new CrawlFrontier(8, 1);
        due("submit of " + text, submit(x, text), 0);
        due(text, text(x, CrawlFrontier.KIND_URL, 0), canonical);
        int slash = canonical.indexOf('/', canonical.indexOf("//") + 2);
        due("disallow of " + text, disallow(x, text), 1);
        due("rule of " + text, text(x, CrawlFrontier.KIND_RULE, 0), canonical.substring(slash));
        due("setDelay of " + text, setDelay(x, text, 2), 0);
        due("hosts of " + text, x.count(CrawlFrontier.COUNT_HOSTS), 1);
    }

    static void malformed(String... texts) {
        for (String text : texts) {
            CrawlFrontier x = new CrawlFrontier(8, 1);
            submitRefused(x, text, CrawlFrontier.BAD_URL);
            disallowRefused(x, text, CrawlFrontier.BAD_URL);
            setDelayRefused(x, text, 2, CrawlFrontier.BAD_URL);
        }
    }

    static String text(CrawlFrontier x, int kind, int index) {
        StringBuilder text = new StringBuilder();
        for (int i = 0; i < x.textLength(kind, index); i++) {
            text.append((char) x.textChar(kind, index, i));
        }
        return text.toString();
    }

    static String buffer(CrawlFrontier x) {
        return text(x, CrawlFrontier.KIND_BUFFER, 0);
    }

    static int state(CrawlFrontier x, int url) {
        return x.info(CrawlFrontier.KIND_URL, url, CrawlFrontier.F_STATE);
    }

    static int host(CrawlFrontier x, int url) {
        return x.info(CrawlFrontier.KIND_URL, url, CrawlFrontier.F_HOST);
    }

    static int time(CrawlFrontier x, int url) {
        return x.info(CrawlFrontier.KIND_URL, url, CrawlFrontier.F_TIME);
    }

    static int queued(CrawlFrontier x, int host) {
        return x.info(CrawlFrontier.KIND_HOST, host, CrawlFrontier.F_QUEUED);
    }

    static int delay(CrawlFrontier x, int host) {
        return x.info(CrawlFrontier.KIND_HOST, host, CrawlFrontier.F_DELAY);
    }

    static int next(CrawlFrontier x, int host) {
        return x.info(CrawlFrontier.KIND_HOST, host, CrawlFrontier.F_NEXT);
    }

    static int sent(CrawlFrontier x, int host) {
        return x.info(CrawlFrontier.KIND_HOST, host, CrawlFrontier.F_SENT);
    }

    private static void addCounts(StringBuilder all, CrawlFrontier x) {
        all.append("counts");
        for (int what = 0; what <= 10; what++) {
            all.append(' ').append(x.count(what));
        }
    }

    private static void addList(StringBuilder all, CrawlFrontier x, int kind, int size) {
        for (int index = 0; index < size; index++) {
            all.append("\n  kind ").append(kind).append(' ').append(text(x, kind, index));
            for (int field = 0; field <= 6; field++) {
                all.append(' ').append(x.info(kind, index, field));
            }
        }
    }

    static String urls(CrawlFrontier x) {
        StringBuilder all = new StringBuilder();
        addList(all, x, CrawlFrontier.KIND_URL, x.count(CrawlFrontier.COUNT_URLS));
        return all.toString();
    }

    static String hosts(CrawlFrontier x) {
        StringBuilder all = new StringBuilder();
        addList(all, x, CrawlFrontier.KIND_HOST, x.count(CrawlFrontier.COUNT_HOSTS));
        return all.toString();
    }

    static String rules(CrawlFrontier x) {
        StringBuilder all = new StringBuilder();
        addList(all, x, CrawlFrontier.KIND_RULE, x.count(CrawlFrontier.COUNT_RULES));
        return all.toString();
    }

    /** All that can be seen of an object but its buffer. */
    static String lists(CrawlFrontier x) {
        StringBuilder all = new StringBuilder();
        addCounts(all, x);
        return all + urls(x) + hosts(x) + rules(x);
    }

    /** All that can be seen of an object. */
    static String everything(CrawlFrontier x) {
        return lists(x) + "\n  buffer " + buffer(x);
    }
}
