/** Promises 8, 9 and 10: count, textLength, textChar and info. */
public final class ReadersTest {
    private static final int[] ODD = {Integer.MIN_VALUE, -2, -1, 4, 7, 8, 11, 12, 100, Integer.MAX_VALUE};

    public static void main(String[] args) {
        CrawlFrontier x = new CrawlFrontier(10, 5);
        Check.submit(x, "http://abc/1?q");
        Check.submit(x, "https://abc/2");
        Check.submit(x, "http://de:81/");
        Check.disallow(x, "http://abc/2");
        Check.disallow(x, "http://f/%7e%2f");
        x.tick(1);
        Check.type(x, "Buf%!");
        String before = Check.everything(x);
        counts(x);
        texts(x);
        wrongTexts(x);
        infos(x);
        wrongInfos(x);
        Check.due("readers change nothing", Check.everything(x), before);
        emptyObject();
        Check.end();
    }

    private static void counts(CrawlFrontier x) {
        int[] due = {3, 3, 2, 1, 1, 1, 1, 40, 7, 10, 5};
        for (int what = 0; what < due.length; what++) {
            Check.due("count " + what, x.count(what), due[what]);
        }
        int[] wrong = {Integer.MIN_VALUE, -100, -2, -1, 11, 12, 256, 65536, Integer.MAX_VALUE};
        for (int what : wrong) {
            Check.due("count " + what, x.count(what), -1);
        }
    }

    private static void textIs(CrawlFrontier x, int kind, int index, String due) {
        String call = "text of kind " + kind + " at " + index;
        Check.due(call + " length", x.textLength(kind, index), due.length());
        for (int i = 0; i < due.length(); i++) {
            Check.due(call + " char " + i, x.textChar(kind, index, i), due.charAt(i));
        }
        int[] wrong = {due.length(), due.length() + 1, -1, Integer.MIN_VALUE, Integer.MAX_VALUE, 48, 300};
        for (int i : wrong) {
            Check.due(call + " char " + i, x.textChar(kind, index, i), -1);
        }
    }

    private static void texts(CrawlFrontier x) {
        textIs(x, CrawlFrontier.KIND_URL, 0, "http://abc/1?q");
        textIs(x, CrawlFrontier.KIND_URL, 1, "https://abc/2");
        textIs(x, CrawlFrontier.KIND_URL, 2, "http://de:81/");
        textIs(x, CrawlFrontier.KIND_HOST, 0, "abc");
        textIs(x, CrawlFrontier.KIND_HOST, 1, "de");
        textIs(x, CrawlFrontier.KIND_HOST, 2, "f");
        textIs(x, CrawlFrontier.KIND_RULE, 0, "/2");
        textIs(x, CrawlFrontier.KIND_RULE, 1, "/~%2F");
        for (int index : ODD) {
            textIs(x, CrawlFrontier.KIND_BUFFER, index, "Buf%!");
        }
    }

    private static void noText(CrawlFrontier x, int kind, int index) {
        Check.due("textLength(" + kind + ", " + index + ")", x.textLength(kind, index), -1);
        int[] places = {0, 1, -1, -2, Integer.MIN_VALUE, Integer.MAX_VALUE};
        for (int i : places) {
            Check.due("textChar(" + kind + ", " + index + ", " + i + ")", x.textChar(kind, index, i), -1);
        }
    }

    private static void wrongTexts(CrawlFrontier x) {
        for (int odd : ODD) {
            noText(x, CrawlFrontier.KIND_URL, odd);
            noText(x, CrawlFrontier.KIND_HOST, odd);
            noText(x, CrawlFrontier.KIND_RULE, odd);
            noText(x, odd, 0);
            noText(x, odd, 1);
        }
        noText(x, CrawlFrontier.KIND_URL, 3);
        noText(x, CrawlFrontier.KIND_HOST, 3);
        noText(x, CrawlFrontier.KIND_RULE, 2);
    }

    private static void infoIs(CrawlFrontier x, int kind, int index, int... due) {
        for (int field = 0; field < due.length; field++) {
            Check.due("info(" + kind + ", " + index + ", " + field + ")", x.info(kind, index, field), due[field]);
        }
        for (int field : ODD) {
            if (field < 0 || field > 6) {
                Check.due("info(" + kind + ", " + index + ", " + field + ")", x.info(kind, index, field), -1);
            }
        }
    }

    private static void infos(CrawlFrontier x) {
        infoIs(x, CrawlFrontier.KIND_URL, 0, 2, 0, 0, -1, -1, -1, -1);
        infoIs(x, CrawlFrontier.KIND_URL, 1, 3, 0, -1, -1, -1, -1, -1);
        infoIs(x, CrawlFrontier.KIND_URL, 2, 1, 1, -1, -1, -1, -1, -1);
        infoIs(x, CrawlFrontier.KIND_HOST, 0, -1, -1, -1, 0, 5, 5, 1);
        infoIs(x, CrawlFrontier.KIND_HOST, 1, -1, -1, -1, 1, 5, 0, 0);
        infoIs(x, CrawlFrontier.KIND_HOST, 2, -1, -1, -1, 0, 5, 0, 0);
        infoIs(x, CrawlFrontier.KIND_RULE, 0, -1, 0, -1, -1, -1, -1, -1);
        infoIs(x, CrawlFrontier.KIND_RULE, 1, -1, 2, -1, -1, -1, -1, -1);
    }

    private static void wrongInfos(CrawlFrontier x) {
        int[] none = {-1, -1, -1, -1, -1, -1, -1};
        for (int odd : ODD) {
            infoIs(x, CrawlFrontier.KIND_URL, odd, none);
            infoIs(x, CrawlFrontier.KIND_HOST, odd, none);
            infoIs(x, CrawlFrontier.KIND_RULE, odd, none);
            infoIs(x, CrawlFrontier.KIND_BUFFER, odd, none);
            infoIs(x, odd, 0, none);
            infoIs(x, odd, 1, none);
        }
        infoIs(x, CrawlFrontier.KIND_BUFFER, 0, none);
        infoIs(x, CrawlFrontier.KIND_BUFFER, 1, none);
        infoIs(x, CrawlFrontier.KIND_URL, 3, none);
        infoIs(x, CrawlFrontier.KIND_HOST, 3, none);
        infoIs(x, CrawlFrontier.KIND_RULE, 2, none);
    }

    private static void emptyObject() {
        CrawlFrontier x = new CrawlFrontier(10, 5);
        for (int kind = -1; kind <= 4; kind++) {
            Check.due("textLength of kind " + kind, x.textLength(kind, 0), kind == CrawlFrontier.KIND_BUFFER ? 0 : -1);
            Check.due("textChar of kind " + kind, x.textChar(kind, 0, 0), -1);
            Check.due("textChar of kind " + kind, x.textChar(kind, 0, -1), -1);
            for (int field = -1; field <= 7; field++) {
                Check.due("info of kind " + kind, x.info(kind, 0, field), -1);
            }
        }
    }
}
