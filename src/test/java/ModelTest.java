import java.util.ArrayList;
import java.util.LinkedHashMap;
import java.util.List;
import java.util.Locale;
import java.util.Map;
import java.util.Random;
import java.util.regex.Matcher;
import java.util.regex.Pattern;

/**
 * All promises together: long runs of calls, drawn from fixed seeds, against a second writing of
 * the document with the Java library. Everything that can be seen is compared after every call.
 */
public final class ModelTest {
    private static final Pattern SYNTAX = Pattern.compile(
            "(?<scheme>[^:]*)://(?<host>[A-Za-z0-9.-]{1,16})(:(?<port>[0-9]{1,5}))?"
            + "(?<path>/[^?#]*)?(?<query>\\?[^#]*)?(#.*)?");

    private static final String[] SCHEMES = {"http", "https", "HTTP", "hTTps", "http", "http", "ftp", ""};
    private static final String[] HOSTS = {"a", "A", "b", "c", "d.e", "D.E", "f-", "g0", "h", "i", "j", "",
        "abcdefghijklmnop", "abcdefghijklmnopq", "a_b"};
    private static final String[] PORTS = {"", "", "", "", ":80", ":443", ":0080", ":81", ":65535", ":65536", ":",
        ":0"};
    private static final String[] PIECES = {"/", "/", "/", ".", "..", "a", "b", "A", "%61", "%2e", "%2E", "%2f", "%7E",
        "%", "?", "#", ":", "xyz", "%4", "/../", "/./", "%C3%a9", "longerpiece"};

    private static final class Url {
        String text;
        String path;
        String host;
        int state = 1;
        int time = -1;
    }

    private static final class Host {
        int delay;
        int next;
        int sent;
    }

    private static final class Model {
        final int maxUrls;
        final int defaultDelay;
        String buffer = "";
        int clock;
        final List<Url> urls = new ArrayList<>();
        final Map<String, Host> hosts = new LinkedHashMap<>();
        final List<String[]> rules = new ArrayList<>();

        Model(int maxUrls, int defaultDelay) {
            this.maxUrls = Math.max(8, Math.min(32, maxUrls));
            this.defaultDelay = Math.max(1, Math.min(16, defaultDelay));
        }

        int put(int... c) {
            String taken = "";
            for (int i = 0; i < 4 && c[i] > 32 && c[i] < 127; i++) {
                taken += (char) c[i];
            }
            if (buffer.length() + taken.length() > 48) {
                return -1;
            }
            buffer += taken;
            return taken.length();
        }

        int submit() {
            Url url = parse(buffer);
            buffer = "";
            if (url == null) {
                return -1;
            }
            if (urls.stream().anyMatch(u -> u.text.equals(url.text))) {
                return -2;
            }
            if (rules.stream().anyMatch(r -> matches(url, r))) {
                return -3;
            }
            if (urls.size() == maxUrls || urlChars() + url.text.length() > 256) {
                return -4;
            }
            if (!makeHost(url.host)) {
                return -5;
            }
            urls.add(url);
            return urls.size() - 1;
        }

        int disallow() {
            Url url = parse(buffer);
            buffer = "";
            if (url == null) {
                return -1;
            }
            String[] rule = {url.host, url.path};
            if (rules.stream().anyMatch(r -> r[0].equals(rule[0]) && r[1].equals(rule[1]))) {
                return -2;
            }
            if (rules.size() == 8 || ruleChars() + rule[1].length() > 128) {
                return -4;
            }
            if (!makeHost(url.host)) {
                return -5;
            }
            rules.add(rule);
            int blocked = 0;
            for (Url u : urls) {
                if (u.state == 1 && matches(u, rule)) {
                    u.state = 3;
                    blocked++;
                }
            }
            return blocked;
        }

        int setDelay(int delay) {
            Url url = parse(buffer);
            buffer = "";
            if (delay < 1 || delay > 16) {
                return -6;
            }
            if (url == null) {
                return -1;
            }
            if (!makeHost(url.host)) {
                return -5;
            }
            hosts.get(url.host).delay = delay;
            return hostId(url.host);
        }

        int tick(int n) {
            int sent = 0;
            for (int i = Math.max(1, Math.min(64, n)); i > 0; i--) {
                Url best = null;
                for (String name : hosts.keySet()) {
                    Url first = urls.stream().filter(u -> u.state == 1 && u.host.equals(name)).findFirst().orElse(null);
                    int next = hosts.get(name).next;
                    if (first != null && next <= clock && (best == null || next < hosts.get(best.host).next)) {
                        best = first;
                    }
                }
                if (best != null) {
                    best.state = 2;
                    best.time = clock;
                    Host host = hosts.get(best.host);
                    host.sent++;
                    host.next = clock + host.delay;
                    sent++;
                }
                clock++;
            }
            return sent;
        }

        boolean makeHost(String name) {
            if (!hosts.containsKey(name) && hosts.size() == 8) {
                return false;
            }
            Host host = new Host();
            host.delay = defaultDelay;
            hosts.putIfAbsent(name, host);
            return true;
        }

        int hostId(String name) {
            return new ArrayList<>(hosts.keySet()).indexOf(name);
        }

        int urlChars() {
            return urls.stream().mapToInt(u -> u.text.length()).sum();
        }

        int ruleChars() {
            return rules.stream().mapToInt(r -> r[1].length()).sum();
        }

        long inState(int state) {
            return urls.stream().filter(u -> u.state == state).count();
        }

        String everything() {
            StringBuilder all = new StringBuilder("counts " + urls.size() + " " + hosts.size() + " " + rules.size()
                    + " " + clock + " " + inState(1) + " " + inState(2) + " " + inState(3) + " " + urlChars() + " "
                    + ruleChars() + " " + maxUrls + " " + defaultDelay);
            for (Url u : urls) {
                all.append("\n  kind 0 " + u.text + " " + u.state + " " + hostId(u.host) + " " + u.time
                        + " -1 -1 -1 -1");
            }
            for (String name : hosts.keySet()) {
                Host h = hosts.get(name);
                long queued = urls.stream().filter(u -> u.state == 1 && u.host.equals(name)).count();
                all.append("\n  kind 1 " + name + " -1 -1 -1 " + queued + " " + h.delay + " " + h.next + " " + h.sent);
            }
            for (String[] rule : rules) {
                all.append("\n  kind 2 " + rule[1] + " -1 " + hostId(rule[0]) + " -1 -1 -1 -1 -1");
            }
            return all + "\n  buffer " + buffer;
        }
    }

    private static boolean matches(Url url, String[] rule) {
        return url.host.equals(rule[0]) && url.path.startsWith(rule[1]);
    }

    private static Url parse(String text) {
        Matcher m = SYNTAX.matcher(text);
        if (!m.matches()) {
            return null;
        }
        Url url = new Url();
        String scheme = m.group("scheme").toLowerCase(Locale.ROOT);
        url.host = m.group("host").toLowerCase(Locale.ROOT);
        int defaultPort = scheme.equals("https") ? 443 : 80;
        int port = m.group("port") == null ? defaultPort : Integer.parseInt(m.group("port"));
        String path = percent(m.group("path") == null ? "/" : m.group("path"));
        String query = percent(m.group("query") == null ? "" : m.group("query"));
        if (!scheme.matches("https?") || port > 65535 || path == null || query == null) {
            return null;
        }
        url.path = dots(path) + query;
        url.text = scheme + "://" + url.host + (port == defaultPort ? "" : ":" + port) + url.path;
        return url;
    }

    private static String percent(String part) {
        if (!part.matches("([^%]|%[0-9a-fA-F]{2})*")) {
            return null;
        }
        return Pattern.compile("%..").matcher(part).replaceAll(triple -> {
            String one = "" + (char) Integer.parseInt(triple.group().substring(1), 16);
            return one.matches("[A-Za-z0-9._~-]") ? one : triple.group().toUpperCase(Locale.ROOT);
        });
    }

    private static String dots(String path) {
        String[] segments = path.substring(1).split("/", -1);
        List<String> output = new ArrayList<>();
        for (int i = 0; i < segments.length; i++) {
            boolean special = segments[i].equals(".") || segments[i].equals("..");
            if (segments[i].equals("..") && !output.isEmpty()) {
                output.remove(output.size() - 1);
            }
            if (!special) {
                output.add(segments[i]);
            } else if (i == segments.length - 1) {
                output.add("");
            }
        }
        return "/" + String.join("/", output);
    }

    private static String pick(Random random, String[] from) {
        return from[random.nextInt(from.length)];
    }

    private static String randomUrl(Random random, int hosts) {
        String host = hosts < HOSTS.length ? HOSTS[random.nextInt(hosts)] : pick(random, HOSTS);
        StringBuilder text = new StringBuilder(pick(random, SCHEMES) + "://" + host + pick(random, PORTS));
        int pieces = random.nextInt(random.nextInt(8) + 1);
        if (pieces > 0 && random.nextInt(4) > 0) {
            text.append('/');
        }
        for (int i = 0; i < pieces; i++) {
            text.append(pick(random, PIECES));
        }
        if (random.nextInt(20) == 0 && text.length() > 0) {
            text.setCharAt(random.nextInt(text.length()), (char) (31 + random.nextInt(97)));
        }
        return text.toString();
    }

    private static void typeBoth(CrawlFrontier x, Model model, String text) {
        for (int i = 0; i < text.length(); i += 4) {
            int a = Check.charAt(text, i);
            int b = Check.charAt(text, i + 1);
            int c = Check.charAt(text, i + 2);
            int d = Check.charAt(text, i + 3);
            Check.due("put at " + i + " of " + text, x.put(a, b, c, d), model.put(a, b, c, d));
        }
    }

    private static void step(CrawlFrontier x, Model model, Random random, int hosts, String run) {
        int choice = random.nextInt(20);
        if (choice < 18) {
            typeBoth(x, model, randomUrl(random, hosts));
        }
        String before = model.buffer;
        if (choice < 11) {
            Check.due(run + "submit of " + before, x.submit(), model.submit());
        } else if (choice < 13) {
            Check.due(run + "disallow of " + before, x.disallow(), model.disallow());
        } else if (choice < 15) {
            int delay = random.nextInt(19) - 1;
            Check.due(run + "setDelay(" + delay + ") of " + before, x.setDelay(delay), model.setDelay(delay));
        } else if (choice < 16) {
            x.clear();
            model.buffer = "";
        } else if (choice < 17) {
            Check.due(run + "put", x.put(64, 33, 126, 127), model.put(64, 33, 126, 127));
        } else {
            int n = random.nextInt(random.nextInt(10) == 0 ? 80 : 6) - 1;
            Check.due(run + "tick(" + n + ")", x.tick(n), model.tick(n));
        }
        Check.due(run + "state", Check.everything(x), model.everything());
    }

    /** Every text that goes on with up to five of these eight characters. */
    private static void everyShortTail(String head) {
        String letters = "/.?#%2e:";
        for (int length = 0; length <= 5; length++) {
            for (int number = 0; number < 1 << 3 * length; number++) {
                StringBuilder text = new StringBuilder(head);
                for (int i = 0; i < length; i++) {
                    text.append(letters.charAt(number >> 3 * i & 7));
                }
                CrawlFrontier x = new CrawlFrontier(8, 1);
                Model model = new Model(8, 1);
                typeBoth(x, model, text.toString());
                Check.due("submit of " + text, x.submit(), model.submit());
                Check.due("state after " + text, Check.everything(x), model.everything());
            }
        }
    }

    public static void main(String[] args) {
        everyShortTail("http://a");
        everyShortTail("https://a/");
        everyShortTail("http://a/b/");
        for (int seed = 0; seed < 1500; seed++) {
            Random random = new Random(seed);
            int maxUrls = random.nextInt(40);
            int delay = random.nextInt(20) - 1;
            // Few hosts reach the limits of the lists and pools, many reach that of the hosts.
            int hosts = 1 + random.nextInt(HOSTS.length);
            CrawlFrontier x = new CrawlFrontier(maxUrls, delay);
            Model model = new Model(maxUrls, delay);
            for (int i = 0; i < 80; i++) {
                step(x, model, random, hosts, "seed " + seed + " call " + i + " ");
            }
        }
        Check.end();
    }
}
