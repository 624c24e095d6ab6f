/** What the tests of the project share: telling wrong answers, and moving texts in and out. */
final class Check {
    private static int wrong = 0;

    private Check() {
    }

    static void due(String call, long got, long want) {
        if (got != want) {
            wrong++;
            System.out.println(call + " answered " + got + ", due is " + want);
        }
    }

    static void due(String call, String got, String want) {
        if (!got.equals(want)) {
            wrong++;
            System.out.println(call + " answered\n  " + got + ", due is\n  " + want);
        }
    }

    static void end() {
        System.out.println(wrong == 0 ? "all answers are as due" : wrong + " answers are not as due");
        if (wrong != 0) {
            System.exit(1);
        }
    }

    static int charAt(String text, int i) {
        return i < text.length() ? text.charAt(i) : 0;
    }

    static void type(CrawlFrontier x, String text) {
        for (int i = 0; i < text.length(); i += 4) {
            int due = Math.min(4, text.length() - i);
            int got = x.put(charAt(text, i), charAt(text, i + 1), charAt(text, i + 2), charAt(text, i + 3));
            due("put at " + i + " of " + text, got, due);
        }
    }

    static int submit(CrawlFrontier x, String text) {
        type(x, text);
        int answer = x.submit();
        due("buffer length after submit of " + text, x.textLength(CrawlFrontier.KIND_BUFFER, 0), 0);
        return answer;
    }

    static int disallow(CrawlFrontier x, String text) {
        type(x, text);
        int answer = x.disallow();
        due("buffer length after disallow of " + text, x.textLength(CrawlFrontier.KIND_BUFFER, 0), 0);
        return answer;
    }

    static int setDelay(CrawlFrontier x, String text, int delay) {
        type(x, text);
        int answer = x.setDelay(delay);
        due("buffer length after setDelay of " + text, x.textLength(CrawlFrontier.KIND_BUFFER, 0), 0);
        return answer;
    }

    static String text(CrawlFrontier x, int kind, int index) {
        StringBuilder text = new StringBuilder();
        for (int i = 0; i < x.textLength(kind, index); i++) {
            text.append((char) x.textChar(kind, index, i));
        }
        return text.toString();
    }

    /** All that can be seen of an object but its buffer. */
    static String lists(CrawlFrontier x) {
        StringBuilder all = new StringBuilder("counts");
        for (int what = 0; what <= 10; what++) {
            all.append(' ').append(x.count(what));
        }
        int[] sizes = {x.count(CrawlFrontier.COUNT_URLS), x.count(CrawlFrontier.COUNT_HOSTS),
            x.count(CrawlFrontier.COUNT_RULES)};
        for (int kind = 0; kind < 3; kind++) {
            for (int index = 0; index < sizes[kind]; index++) {
                all.append("\n  kind ").append(kind).append(' ').append(text(x, kind, index));
                for (int field = 0; field <= 6; field++) {
                    all.append(' ').append(x.info(kind, index, field));
                }
            }
        }
        return all.toString();
    }

    /** All that can be seen of an object. */
    static String everything(CrawlFrontier x) {
        return lists(x) + "\n  buffer " + text(x, CrawlFrontier.KIND_BUFFER, 0);
    }
}
