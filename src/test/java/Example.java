/** The example of README.md. */
public final class Example {
    public static void main(String[] args) {
        // At most 32 URLs; 3 steps of the clock between two URLs of one host.
        CrawlFrontier frontier = new CrawlFrontier(32, 3);

        type(frontier, "HTTP://Ex.COM:80/a/./b/../%7ex#f");
        int first = frontier.submit();
        System.out.println("URL " + first + " is " + text(frontier, CrawlFrontier.KIND_URL, first));

        type(frontier, "http://ex.com/a/~x");
        System.out.println("once more: " + (frontier.submit() == CrawlFrontier.DUPLICATE));

        type(frontier, "http://ex.com/b");
        int second = frontier.submit();
        type(frontier, "http://ex.com/private/1");
        frontier.submit();

        type(frontier, "http://ex.com/private");
        System.out.println("blocked by the rule: " + frontier.disallow());
        type(frontier, "http://ex.com/private/2");
        System.out.println("not let in: " + (frontier.submit() == CrawlFrontier.DISALLOWED));

        type(frontier, "http://ex.com");
        int host = frontier.setDelay(5);
        System.out.println("sent in 10 steps: " + frontier.tick(10));
        System.out.println("at " + time(frontier, first) + " and " + time(frontier, second));
        System.out.println("next from " + frontier.info(CrawlFrontier.KIND_HOST, host, CrawlFrontier.F_NEXT)
                + ", now it is " + frontier.count(CrawlFrontier.COUNT_TIME));
    }

    private static int time(CrawlFrontier frontier, int url) {
        return frontier.info(CrawlFrontier.KIND_URL, url, CrawlFrontier.F_TIME);
    }

    // put takes four characters a call; the 0 that follows a short text is not taken.
    private static void type(CrawlFrontier frontier, String text) {
        for (int i = 0; i < text.length(); i += 4) {
            frontier.put(code(text, i), code(text, i + 1), code(text, i + 2), code(text, i + 3));
        }
    }

    private static int code(String text, int i) {
        return i < text.length() ? text.charAt(i) : 0;
    }

    private static String text(CrawlFrontier frontier, int kind, int index) {
        StringBuilder text = new StringBuilder();
        for (int i = 0; i < frontier.textLength(kind, index); i++) {
            text.append((char) frontier.textChar(kind, index, i));
        }
        return text.toString();
    }
}
