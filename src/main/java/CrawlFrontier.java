/**
 * The frontier of a web crawler: addresses made canonical, admitted once and
 * released by a clock.
 */
public final class CrawlFrontier {
    public static final int STATE_QUEUED = 1;
    public static final int STATE_DISPATCHED = 2;
    public static final int STATE_BLOCKED = 3;
    public static final int BAD_URL = -1;
    public static final int DUPLICATE = -2;
    public static final int DISALLOWED = -3;
    public static final int FULL = -4;
    public static final int NO_HOST_ROOM = -5;
    public static final int BAD_DELAY = -6;
    public static final int KIND_URL = 0;
    public static final int KIND_HOST = 1;
    public static final int KIND_RULE = 2;
    public static final int KIND_BUFFER = 3;
    public static final int F_STATE = 0;
    public static final int F_HOST = 1;
    public static final int F_TIME = 2;
    public static final int F_QUEUED = 3;
    public static final int F_DELAY = 4;
    public static final int F_NEXT = 5;
    public static final int F_SENT = 6;
    public static final int COUNT_URLS = 0;
    public static final int COUNT_HOSTS = 1;
    public static final int COUNT_RULES = 2;
    public static final int COUNT_TIME = 3;
    public static final int COUNT_QUEUED = 4;
    public static final int COUNT_DISPATCHED = 5;
    public static final int COUNT_BLOCKED = 6;
    public static final int COUNT_URL_CHARS = 7;
    public static final int COUNT_RULE_CHARS = 8;
    public static final int COUNT_MAX_URLS = 9;
    public static final int COUNT_DEFAULT_DELAY = 10;

    private static final int NONE = -1;

    private static final int BUFFER_SIZE = 48;
    // An absent path is written as '/', so a canonical text can be one longer than the buffer.
    private static final int CANON_SIZE = 49;
    private static final int LEAST_MAX_URLS = 8;
    private static final int MOST_URLS = 32;
    private static final int URL_POOL_SIZE = 256;
    private static final int MOST_HOSTS = 8;
    private static final int NAME_SIZE = 16;
    private static final int NAMES_SIZE = 128;
    private static final int MOST_RULES = 8;
    private static final int RULE_POOL_SIZE = 128;
    private static final int MOST_DELAY = 16;
    private static final int MOST_STEPS = 64;
    private static final int MOST_PORT_DIGITS = 5;
    private static final int MOST_PORT = 65535;
    private static final int GREATEST_PORT_UNIT = 10000;
    private static final int HTTP_PORT = 80;
    private static final int HTTPS_PORT = 443;

    // The delimiters, ranked so that each part of a URL ends at those of its own rank or below.
    private static final int RANK_FRAGMENT = 1;
    private static final int RANK_QUERY = 2;
    private static final int RANK_PATH = 3;
    private static final int RANK_PORT = 4;
    private static final int RANK_OTHER = 5;

    private final int maxUrls;
    private final int defaultDelay;
    private int clock;

    private final int[] buffer = new int[BUFFER_SIZE];
    private int bufferLength;

    // What the last canonicalisation made of the buffer; no answer depends on it between calls.
    private final int[] canon = new int[CANON_SIZE];
    private int canonLength;
    private int canonHost;
    private int canonHostLength;
    private int canonPath;
    private int schemePort;

    // The path or the query after the percent rule.
    private final int[] part = new int[BUFFER_SIZE];
    private int partLength;

    private final int[] urlPool = new int[URL_POOL_SIZE];
    private final int[] urlStart = new int[MOST_URLS];
    private final int[] urlLength = new int[MOST_URLS];
    private final int[] urlPath = new int[MOST_URLS];
    private final int[] urlHost = new int[MOST_URLS];
    private final int[] urlState = new int[MOST_URLS];
    private final int[] urlTime = new int[MOST_URLS];
    private int urlCount;
    private int urlChars;

    private final int[] names = new int[NAMES_SIZE];
    private final int[] nameLength = new int[MOST_HOSTS];
    private final int[] hostDelay = new int[MOST_HOSTS];
    private final int[] hostNext = new int[MOST_HOSTS];
    private int hostCount;

    private final int[] rulePool = new int[RULE_POOL_SIZE];
    private final int[] ruleStart = new int[MOST_RULES];
    private final int[] ruleLength = new int[MOST_RULES];
    private final int[] ruleHost = new int[MOST_RULES];
    private int ruleCount;
    private int ruleChars;

    public CrawlFrontier(int maxUrls, int defaultDelay) {
        this.maxUrls = clamp(maxUrls, LEAST_MAX_URLS, MOST_URLS);
        this.defaultDelay = clamp(defaultDelay, 1, MOST_DELAY);
    }

    public int put(int c0, int c1, int c2, int c3) {
        int taken = leadingPrintable(c0, c1, c2, c3);
        if (bufferLength + taken > BUFFER_SIZE) {
            return -1;
        }
        if (taken >= 1) {
            buffer[bufferLength] = c0;
        }
        if (taken >= 2) {
            buffer[bufferLength + 1] = c1;
        }
        if (taken >= 3) {
            buffer[bufferLength + 2] = c2;
        }
        if (taken >= 4) {
            buffer[bufferLength + 3] = c3;
        }
        bufferLength += taken;
        return taken;
    }

    public void clear() {
        bufferLength = 0;
    }

    public int submit() {
        boolean wellFormed = canonicalise();
        bufferLength = 0;
        if (!wellFormed) {
            return BAD_URL;
        }
        if (isAdmitted()) {
            return DUPLICATE;
        }
        int known = findHost();
        if (isDisallowed(known)) {
            return DISALLOWED;
        }
        if (urlCount >= maxUrls || urlChars + canonLength > URL_POOL_SIZE) {
            return FULL;
        }
        int host = hostOrNew(known);
        if (host == NONE) {
            return NO_HOST_ROOM;
        }
        return addUrl(host);
    }

    public int disallow() {
        boolean wellFormed = canonicalise();
        bufferLength = 0;
        if (!wellFormed) {
            return BAD_URL;
        }
        int known = findHost();
        if (isRule(known)) {
            return DUPLICATE;
        }
        if (ruleCount >= MOST_RULES || ruleChars + canonLength - canonPath > RULE_POOL_SIZE) {
            return FULL;
        }
        int host = hostOrNew(known);
        if (host == NONE) {
            return NO_HOST_ROOM;
        }
        int rule = addRule(host);
        return blockMatching(rule);
    }

    public int setDelay(int delay) {
        if (delay < 1 || delay > MOST_DELAY) {
            bufferLength = 0;
            return BAD_DELAY;
        }
        boolean wellFormed = canonicalise();
        bufferLength = 0;
        if (!wellFormed) {
            return BAD_URL;
        }
        int known = findHost();
        int host = hostOrNew(known);
        if (host == NONE) {
            return NO_HOST_ROOM;
        }
        hostDelay[host] = delay;
        return host;
    }

    public int tick(int n) {
        int steps = clamp(n, 1, MOST_STEPS);
        int dispatched = 0;
        for (int step = 0; step < steps; step++) {
            int host = chooseHost();
            if (host != NONE) {
                dispatchFrom(host);
                dispatched++;
            }
            clock++;
        }
        return dispatched;
    }

    public int count(int what) {
        switch (what) {
            case COUNT_URLS:
                return urlCount;
            case COUNT_HOSTS:
                return hostCount;
            case COUNT_RULES:
                return ruleCount;
            case COUNT_TIME:
                return clock;
            case COUNT_QUEUED:
                return urlsIn(STATE_QUEUED);
            case COUNT_DISPATCHED:
                return urlsIn(STATE_DISPATCHED);
            case COUNT_BLOCKED:
                return urlsIn(STATE_BLOCKED);
            case COUNT_URL_CHARS:
                return urlChars;
            case COUNT_RULE_CHARS:
                return ruleChars;
            case COUNT_MAX_URLS:
                return maxUrls;
            case COUNT_DEFAULT_DELAY:
                return defaultDelay;
            default:
                return -1;
        }
    }

    public int textLength(int kind, int index) {
        if (kind == KIND_BUFFER) {
            return bufferLength;
        }
        if (!isListed(kind, index)) {
            return -1;
        }
        if (kind == KIND_URL) {
            return urlLength[index];
        }
        if (kind == KIND_HOST) {
            return nameLength[index];
        }
        return ruleLength[index];
    }

    public int textChar(int kind, int index, int i) {
        int length = textLength(kind, index);
        if (i < 0 || i >= length) {
            return -1;
        }
        if (kind == KIND_BUFFER) {
            return buffer[i];
        }
        if (kind == KIND_URL) {
            return urlPool[urlStart[index] + i];
        }
        if (kind == KIND_HOST) {
            return names[index * NAME_SIZE + i];
        }
        return rulePool[ruleStart[index] + i];
    }

    public int info(int kind, int index, int field) {
        if (!isListed(kind, index)) {
            return -1;
        }
        if (kind == KIND_URL) {
            return urlInfo(index, field);
        }
        if (kind == KIND_HOST) {
            return hostInfo(index, field);
        }
        return field == F_HOST ? ruleHost[index] : -1;
    }

    private int urlInfo(int url, int field) {
        switch (field) {
            case F_STATE:
                return urlState[url];
            case F_HOST:
                return urlHost[url];
            case F_TIME:
                return urlTime[url];
            default:
                return -1;
        }
    }

    private int hostInfo(int host, int field) {
        switch (field) {
            case F_QUEUED:
                return urlsOfHostIn(host, STATE_QUEUED);
            case F_DELAY:
                return hostDelay[host];
            case F_NEXT:
                return hostNext[host];
            case F_SENT:
                // Every dispatch moves one URL into this state for good, so no count of its own is kept.
                return urlsOfHostIn(host, STATE_DISPATCHED);
            default:
                return -1;
        }
    }

    // The buffer is not listed: it has a text but no index and no fields.
    private boolean isListed(int kind, int index) {
        int size = 0;
        if (kind == KIND_URL) {
            size = urlCount;
        }
        if (kind == KIND_HOST) {
            size = hostCount;
        }
        if (kind == KIND_RULE) {
            size = ruleCount;
        }
        return index >= 0 && index < size;
    }

    private int urlsIn(int state) {
        int found = 0;
        for (int url = 0; url < urlCount; url++) {
            if (urlState[url] == state) {
                found++;
            }
        }
        return found;
    }

    private int urlsOfHostIn(int host, int state) {
        int found = 0;
        for (int url = 0; url < urlCount; url++) {
            if (urlHost[url] == host && urlState[url] == state) {
                found++;
            }
        }
        return found;
    }

    // ---- the clock ----

    private int chooseHost() {
        int chosen = NONE;
        for (int host = 0; host < hostCount; host++) {
            // Only a strictly earlier time wins, so that a tie stays with the smaller id.
            if (isReady(host) && (chosen == NONE || hostNext[host] < hostNext[chosen])) {
                chosen = host;
            }
        }
        return chosen;
    }

    private boolean isReady(int host) {
        return hostNext[host] <= clock && firstQueued(host) != NONE;
    }

    private int firstQueued(int host) {
        for (int url = 0; url < urlCount; url++) {
            if (urlHost[url] == host && urlState[url] == STATE_QUEUED) {
                return url;
            }
        }
        return NONE;
    }

    private void dispatchFrom(int host) {
        int url = firstQueued(host);
        if (url != NONE) {
            urlState[url] = STATE_DISPATCHED;
            urlTime[url] = clock;
            hostNext[host] = clock + hostDelay[host];
        }
    }

    // ---- the lists ----

    private boolean isAdmitted() {
        for (int url = 0; url < urlCount; url++) {
            if (urlLength[url] == canonLength
                    && sameChars(urlPool, urlStart[url], canon, 0, canonLength)) {
                return true;
            }
        }
        return false;
    }

    // A host that does not exist yet (NONE) has no rules.
    private boolean isDisallowed(int host) {
        for (int rule = 0; rule < ruleCount; rule++) {
            if (ruleHost[rule] == host
                    && ruleLength[rule] <= canonLength - canonPath
                    && sameChars(rulePool, ruleStart[rule], canon, canonPath, ruleLength[rule])) {
                return true;
            }
        }
        return false;
    }

    private boolean isRule(int host) {
        for (int rule = 0; rule < ruleCount; rule++) {
            if (ruleHost[rule] == host
                    && ruleLength[rule] == canonLength - canonPath
                    && sameChars(rulePool, ruleStart[rule], canon, canonPath, ruleLength[rule])) {
                return true;
            }
        }
        return false;
    }

    private int findHost() {
        for (int host = 0; host < hostCount; host++) {
            if (nameLength[host] == canonHostLength
                    && sameChars(names, host * NAME_SIZE, canon, canonHost, canonHostLength)) {
                return host;
            }
        }
        return NONE;
    }

    // NONE means that there is no room for a new host.
    private int hostOrNew(int known) {
        if (known != NONE) {
            return known;
        }
        if (hostCount >= MOST_HOSTS) {
            return NONE;
        }
        int host = hostCount;
        copyCanon(canonHost, canonHostLength, names, host * NAME_SIZE);
        nameLength[host] = canonHostLength;
        hostDelay[host] = defaultDelay;
        hostNext[host] = 0;
        hostCount++;
        return host;
    }

    private int addUrl(int host) {
        int url = urlCount;
        copyCanon(0, canonLength, urlPool, urlChars);
        urlStart[url] = urlChars;
        urlLength[url] = canonLength;
        urlPath[url] = canonPath;
        urlHost[url] = host;
        urlState[url] = STATE_QUEUED;
        urlTime[url] = -1;
        urlChars += canonLength;
        urlCount++;
        return url;
    }

    private int addRule(int host) {
        int rule = ruleCount;
        int length = canonLength - canonPath;
        copyCanon(canonPath, length, rulePool, ruleChars);
        ruleStart[rule] = ruleChars;
        ruleLength[rule] = length;
        ruleHost[rule] = host;
        ruleChars += length;
        ruleCount++;
        return rule;
    }

    private int blockMatching(int rule) {
        int blocked = 0;
        for (int url = 0; url < urlCount; url++) {
            if (urlState[url] == STATE_QUEUED && matches(url, rule)) {
                urlState[url] = STATE_BLOCKED;
                blocked++;
            }
        }
        return blocked;
    }

    // Host names are pairwise different, so equal names are equal ids.
    private boolean matches(int url, int rule) {
        int path = urlStart[url] + urlPath[url];
        int pathLength = urlLength[url] - urlPath[url];
        return urlHost[url] == ruleHost[rule]
                && ruleLength[rule] <= pathLength
                && sameChars(rulePool, ruleStart[rule], urlPool, path, ruleLength[rule]);
    }

    private void copyCanon(int from, int length, int[] target, int at) {
        for (int i = 0; i < length; i++) {
            target[at + i] = canon[from + i];
        }
    }

    private static boolean sameChars(int[] a, int aFrom, int[] b, int bFrom, int length) {
        for (int i = 0; i < length; i++) {
            if (a[aFrom + i] != b[bFrom + i]) {
                return false;
            }
        }
        return true;
    }

    // ---- the canonical text ----

    private boolean canonicalise() {
        canonLength = 0;
        int hostFrom = takeScheme();
        if (hostFrom == NONE) {
            return false;
        }
        int hostEnd = takeHost(hostFrom);
        if (hostEnd == NONE) {
            return false;
        }
        int pathFrom = takePort(hostEnd);
        if (pathFrom == NONE) {
            return false;
        }
        int pathEnd = partEnd(pathFrom, RANK_QUERY);
        if (!decode(pathFrom, pathEnd)) {
            return false;
        }
        appendPath();
        int queryEnd = partEnd(pathEnd, RANK_FRAGMENT);
        if (!decode(pathEnd, queryEnd)) {
            return false;
        }
        appendQuery();
        return true;
    }

    // Answers where the host begins. A scheme cannot hold '/', '?' or '#', so ending it at
    // these too refuses the same texts as ending it at ':' alone.
    private int takeScheme() {
        int colon = partEnd(0, RANK_PORT);
        int after = colon + 3;
        if (colon < 4 || colon > 5 || after > bufferLength) {
            return NONE;
        }
        for (int i = 0; i < after; i++) {
            int c = lower(buffer[i]);
            append(c);
        }
        boolean http = canon[0] == 'h' && canon[1] == 't' && canon[2] == 't' && canon[3] == 'p';
        boolean secure = colon == 5;
        boolean slashes = canon[colon] == ':' && canon[colon + 1] == '/' && canon[colon + 2] == '/';
        if (!http || !slashes || (secure && canon[4] != 's')) {
            return NONE;
        }
        schemePort = secure ? HTTPS_PORT : HTTP_PORT;
        return after;
    }

    private int takeHost(int from) {
        int end = partEnd(from, RANK_PORT);
        int length = end - from;
        if (length < 1 || length > NAME_SIZE) {
            return NONE;
        }
        canonHost = canonLength;
        canonHostLength = length;
        for (int i = from; i < end; i++) {
            if (!isHostCharacter(buffer[i])) {
                return NONE;
            }
            int c = lower(buffer[i]);
            append(c);
        }
        return end;
    }

    private int takePort(int from) {
        if (from >= bufferLength || buffer[from] != ':') {
            return from;
        }
        int first = from + 1;
        int end = partEnd(first, RANK_PATH);
        if (end - first < 1 || end - first > MOST_PORT_DIGITS) {
            return NONE;
        }
        int port = 0;
        for (int i = first; i < end; i++) {
            if (!isDigit(buffer[i])) {
                return NONE;
            }
            port = port * 10 + buffer[i] - '0';
        }
        if (port > MOST_PORT) {
            return NONE;
        }
        if (port != schemePort) {
            appendPort(port);
        }
        return end;
    }

    private void appendPort(int port) {
        append(':');
        for (int unit = GREATEST_PORT_UNIT; unit >= 1; unit /= 10) {
            // Port 0 still has its one digit.
            if (port >= unit || unit == 1) {
                append('0' + port / unit % 10);
            }
        }
    }

    // The percent rule: writes buffer[from .. end) into part, or answers false.
    private boolean decode(int from, int end) {
        partLength = 0;
        int i = from;
        while (i < end) {
            if (buffer[i] != '%') {
                addToPart(buffer[i]);
                i++;
            } else {
                if (i + 2 >= end) {
                    return false;
                }
                int high = hexValue(buffer[i + 1]);
                int low = hexValue(buffer[i + 2]);
                if (high == NONE || low == NONE) {
                    return false;
                }
                addTriple(high, low);
                i += 3;
            }
        }
        return true;
    }

    private void addTriple(int high, int low) {
        int value = high * 16 + low;
        // The unreserved characters are those of a host and these two.
        if (isHostCharacter(value) || value == '_' || value == '~') {
            addToPart(value);
        } else {
            int highDigit = hexDigit(high);
            int lowDigit = hexDigit(low);
            addToPart('%');
            addToPart(highDigit);
            addToPart(lowDigit);
        }
    }

    // The percent rule never makes a '/', so the segments can be told by it in the decoded part.
    private void appendPath() {
        canonPath = canonLength;
        if (partLength == 0) {
            append('/');
        }
        int start = 1;
        for (int i = 1; i <= partLength; i++) {
            if (i == partLength || part[i] == '/') {
                appendSegment(start, i);
                start = i + 1;
            }
        }
    }

    // Each output segment stands in canon behind a '/' of its own, which it has in part too.
    private void appendSegment(int start, int end) {
        boolean oneDot = end - start == 1 && part[start] == '.';
        boolean twoDots = end - start == 2 && part[start] == '.' && part[start + 1] == '.';
        if (twoDots) {
            dropSegment();
        }
        if (!oneDot && !twoDots) {
            for (int i = start - 1; i < end; i++) {
                append(part[i]);
            }
        } else if (end == partLength) {
            append('/');
        }
    }

    private void dropSegment() {
        boolean dropped = false;
        while (canonLength > canonPath && !dropped) {
            canonLength--;
            dropped = canon[canonLength] == '/';
        }
    }

    private void appendQuery() {
        for (int i = 0; i < partLength; i++) {
            append(part[i]);
        }
    }

    // No text of the buffer can outgrow canon or part; the bound stands here so that an index
    // is never trusted unseen.
    private void append(int c) {
        if (canonLength < CANON_SIZE) {
            canon[canonLength] = c;
            canonLength++;
        }
    }

    private void addToPart(int c) {
        if (partLength < BUFFER_SIZE) {
            part[partLength] = c;
            partLength++;
        }
    }

    private int partEnd(int from, int rank) {
        for (int i = from; i < bufferLength; i++) {
            if (delimiterRank(buffer[i]) <= rank) {
                return i;
            }
        }
        return bufferLength;
    }

    private static int delimiterRank(int c) {
        switch (c) {
            case '#':
                return RANK_FRAGMENT;
            case '?':
                return RANK_QUERY;
            case '/':
                return RANK_PATH;
            case ':':
                return RANK_PORT;
            default:
                return RANK_OTHER;
        }
    }

    // ---- characters and numbers ----

    private static int leadingPrintable(int c0, int c1, int c2, int c3) {
        if (!isPrintable(c0)) {
            return 0;
        }
        if (!isPrintable(c1)) {
            return 1;
        }
        if (!isPrintable(c2)) {
            return 2;
        }
        return isPrintable(c3) ? 4 : 3;
    }

    private static boolean isPrintable(int c) {
        return c >= 33 && c <= 126;
    }

    private static boolean isDigit(int c) {
        return c >= '0' && c <= '9';
    }

    private static boolean isHostCharacter(int c) {
        return (c >= 'a' && c <= 'z')
                || (c >= 'A' && c <= 'Z')
                || (c >= '0' && c <= '9')
                || c == '-'
                || c == '.';
    }

    private static int lower(int c) {
        return c >= 'A' && c <= 'Z' ? c + ('a' - 'A') : c;
    }

    private static int hexValue(int c) {
        if (isDigit(c)) {
            return c - '0';
        }
        if (c >= 'A' && c <= 'F') {
            return c - 'A' + 10;
        }
        if (c >= 'a' && c <= 'f') {
            return c - 'a' + 10;
        }
        return NONE;
    }

    private static int hexDigit(int value) {
        return value < 10 ? '0' + value : 'A' + value - 10;
    }

    private static int clamp(int value, int least, int most) {
        if (value < least) {
            return least;
        }
        return value > most ? most : value;
    }
}
