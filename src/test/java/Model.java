import java.util.ArrayList;
import java.util.Comparator;
import java.util.HashMap;
import java.util.List;
import java.util.Map;
import java.util.TreeSet;
import java.util.stream.Collectors;

/**
 * The document told a second time, in another shape: one bag of copies, each of which says where it is.
 * It is made to be compared with QueueBroker and shares nothing with it.
 */
final class Model {
    record Exchange(int type, boolean durable) { }

    record Queue(int limit, int dead, boolean durable) { }

    record Binding(int e, int q, List<Integer> items) { }

    record Consumer(int channel, int q, boolean automatic) { }

    /** Publishes if copies is null, settles otherwise. */
    record Deed(int e, List<Integer> key, int written, int body, boolean persistent, List<Copy> copies, int how) { }

    static final class Copy {
        int q;
        int body;
        List<Integer> key;
        int written;
        int hops;
        boolean persistent;
        boolean returned;
        long place;
        int holder = -1;
        int tag;
    }

    static final class Channel {
        int prefetch = 12;
        int tags = 0;
        List<Deed> deeds = null;
    }

    private final Map<Integer, Exchange> exchanges = new HashMap<>();
    private final Map<Integer, Queue> queues = new HashMap<>();
    private final List<Binding> bindings = new ArrayList<>();
    private final List<Consumer> consumers = new ArrayList<>();
    private final List<Channel> channels = new ArrayList<>();
    private List<Copy> copies = new ArrayList<>();
    private final List<Copy> letters = new ArrayList<>();
    private long places = 0;
    private int routed = 0;
    private int lost = 0;

    Model() {
        for (int c = 0; c < 4; c++) {
            channels.add(new Channel());
        }
    }

    /** The items of a pattern, or null if it is none. */
    static List<Integer> items(int pattern) {
        String digits = Integer.toHexString(pattern);
        if (pattern == 0) {
            return List.of();
        }
        if (digits.contains("0")) {
            return null;
        }
        return digits.chars().mapToObj(digit -> Character.digit(digit, 16)).collect(Collectors.toList());
    }

    static List<Integer> words(int key) {
        List<Integer> items = items(key);
        return items == null || items.contains(14) || items.contains(15) ? null : items;
    }

    static boolean fits(List<Integer> pattern, List<Integer> key) {
        if (pattern.isEmpty()) {
            return key.isEmpty();
        }
        List<Integer> rest = pattern.subList(1, pattern.size());
        if (pattern.get(0) == 15) {
            return fits(rest, key) || !key.isEmpty() && fits(pattern, key.subList(1, key.size()));
        }
        if (key.isEmpty() || pattern.get(0) != 14 && !pattern.get(0).equals(key.get(0))) {
            return false;
        }
        return fits(rest, key.subList(1, key.size()));
    }

    private List<Copy> ready(int q) {
        return copies.stream().filter(c -> c.q == q && c.holder < 0).sorted(Comparator.comparingLong(c -> c.place))
                .collect(Collectors.toList());
    }

    private List<Copy> held(int channel) {
        return copies.stream().filter(c -> c.holder == channel).sorted(Comparator.comparingInt(c -> c.tag))
                .collect(Collectors.toList());
    }

    private List<Consumer> row(int q) {
        return consumers.stream().filter(c -> c.q == q).collect(Collectors.toList());
    }

    private boolean deedHas(int channel, Copy copy) {
        List<Deed> deeds = channels.get(channel).deeds;
        return deeds != null && deeds.stream().anyMatch(d -> d.copies != null && d.copies.contains(copy));
    }

    private TreeSet<Integer> chosen(int e, List<Integer> key) {
        TreeSet<Integer> found = new TreeSet<>();
        for (Binding b : bindings) {
            int type = exchanges.get(e).type;
            if (b.e == e && (type == 1 || type == 0 && b.items.equals(key) || type == 2 && fits(b.items, key))) {
                found.add(b.q);
            }
        }
        return found;
    }

    private int route(int e, List<Integer> key, int written, int body, boolean persistent, int hops) {
        TreeSet<Integer> found = chosen(e, key);
        for (int q : found) {
            Copy copy = new Copy();
            copy.q = q;
            copy.body = body;
            copy.key = key;
            copy.written = written;
            copy.hops = hops;
            copy.persistent = persistent;
            copy.place = ++places;
            copies.add(copy);
            while (ready(q).size() > queues.get(q).limit) {
                Copy out = ready(q).get(0);
                copies.remove(out);
                letters.add(out);
            }
        }
        return found.size();
    }

    private void routeLetters() {
        int left = 3;
        while (!letters.isEmpty()) {
            Copy letter = letters.remove(0);
            int dead = queues.get(letter.q).dead;
            if (!exchanges.containsKey(dead) || letter.hops >= 3 || left == 0) {
                lost++;
                continue;
            }
            left--;
            routed++;
            route(dead, letter.key, letter.written, letter.body, letter.persistent, letter.hops + 1);
        }
    }

    private void settleAll(List<Copy> which, int how) {
        for (Copy copy : which) {
            if (!copies.contains(copy)) {
                continue;
            }
            if (how == 1) {
                copy.holder = -1;
                copy.returned = true;
            } else {
                copies.remove(copy);
                if (how == 2) {
                    letters.add(copy);
                }
            }
        }
    }

    private static boolean channel(int c) {
        return c >= 0 && c <= 3;
    }

    int exchange(int e, int type, boolean durable) {
        if (e < 0 || e > 4 || type < 0 || type > 2) {
            return -1;
        }
        Exchange wanted = new Exchange(type, durable);
        return exchanges.computeIfAbsent(e, n -> wanted).equals(wanted) ? 0 : -3;
    }

    int queue(int q, int limit, int dead, boolean durable) {
        if (q < 0 || q > 5 || limit < 1 || limit > 12 || dead < -1 || dead > 4) {
            return -1;
        }
        Queue wanted = new Queue(limit, dead, durable);
        return queues.computeIfAbsent(q, n -> wanted).equals(wanted) ? 0 : -3;
    }

    int bind(int e, int q, int pattern) {
        if (!exchanges.containsKey(e) || !queues.containsKey(q) || items(pattern) == null) {
            return -1;
        }
        Binding wanted = new Binding(e, q, items(pattern));
        if (bindings.contains(wanted)) {
            return -3;
        }
        if (bindings.size() == 24) {
            return -2;
        }
        bindings.add(wanted);
        return 0;
    }

    int unbind(int e, int q, int pattern) {
        if (!exchanges.containsKey(e) || !queues.containsKey(q) || items(pattern) == null) {
            return -1;
        }
        return bindings.remove(new Binding(e, q, items(pattern))) ? 0 : -3;
    }

    int drop(int q) {
        if (queues.remove(q) == null) {
            return -1;
        }
        int before = copies.size();
        copies.removeIf(c -> c.q == q);
        bindings.removeIf(b -> b.q == q);
        consumers.removeIf(c -> c.q == q);
        return before - copies.size();
    }

    int publish(int channel, int e, int key, int body, int flags) {
        if (!channel(channel) || !exchanges.containsKey(e) || words(key) == null || flags < 0 || flags > 3) {
            return -1;
        }
        List<Deed> deeds = channels.get(channel).deeds;
        boolean persistent = flags % 2 == 1;
        if (deeds != null) {
            if (deeds.size() == 4) {
                return -2;
            }
            deeds.add(new Deed(e, words(key), key, body, persistent, null, 0));
            return 100;
        }
        if (flags >= 2 && chosen(e, words(key)).isEmpty()) {
            return -4;
        }
        int found = route(e, words(key), key, body, persistent, 0);
        routeLetters();
        return found;
    }

    int consume(int channel, int q, boolean automatic) {
        if (!channel(channel) || !queues.containsKey(q)) {
            return -1;
        }
        if (consumers.stream().anyMatch(c -> c.channel == channel && c.q == q)) {
            return -3;
        }
        consumers.add(new Consumer(channel, q, automatic));
        return 0;
    }

    int cancel(int channel, int q) {
        if (!channel(channel) || !queues.containsKey(q)) {
            return -1;
        }
        return consumers.removeIf(c -> c.channel == channel && c.q == q) ? 0 : -3;
    }

    int deliver(int q) {
        if (!queues.containsKey(q)) {
            return -1;
        }
        if (ready(q).isEmpty()) {
            return -5;
        }
        Copy copy = ready(q).get(0);
        for (Consumer consumer : row(q)) {
            Channel channel = channels.get(consumer.channel);
            if (consumer.automatic) {
                copies.remove(copy);
            } else if (held(consumer.channel).size() < channel.prefetch) {
                copy.holder = consumer.channel;
                copy.tag = ++channel.tags;
            } else {
                continue;
            }
            consumers.remove(consumer);
            consumers.add(consumer);
            return consumer.channel;
        }
        return -6;
    }

    int settle(int channel, int tag, boolean whole, int how) {
        if (!channel(channel) || tag < 0 || tag == 0 && !whole || how < 0 || how > 2) {
            return -1;
        }
        List<Copy> which = held(channel).stream()
                .filter(c -> !deedHas(channel, c) && (c.tag == tag || whole && (tag == 0 || c.tag < tag)))
                .collect(Collectors.toList());
        if (which.isEmpty()) {
            return -1;
        }
        List<Deed> deeds = channels.get(channel).deeds;
        if (deeds != null) {
            if (deeds.size() == 4) {
                return -2;
            }
            deeds.add(new Deed(0, null, 0, 0, false, which, how));
            return 100;
        }
        settleAll(which, how);
        routeLetters();
        return which.size();
    }

    int prefetch(int channel, int n) {
        if (!channel(channel) || n < 1 || n > 12) {
            return -1;
        }
        channels.get(channel).prefetch = n;
        return 0;
    }

    int begin(int channel) {
        if (!channel(channel)) {
            return -1;
        }
        if (channels.get(channel).deeds != null) {
            return -3;
        }
        channels.get(channel).deeds = new ArrayList<>();
        return 0;
    }

    int commit(int channel) {
        if (!channel(channel)) {
            return -1;
        }
        List<Deed> deeds = channels.get(channel).deeds;
        if (deeds == null) {
            return -3;
        }
        for (Deed deed : deeds) {
            if (deed.copies != null) {
                settleAll(deed.copies, deed.how);
            } else if (exchanges.containsKey(deed.e)) {
                route(deed.e, deed.key, deed.written, deed.body, deed.persistent, 0);
            }
        }
        routeLetters();
        channels.get(channel).deeds = new ArrayList<>();
        return deeds.size();
    }

    int rollback(int channel) {
        if (!channel(channel)) {
            return -1;
        }
        List<Deed> deeds = channels.get(channel).deeds;
        if (deeds == null) {
            return -3;
        }
        channels.get(channel).deeds = new ArrayList<>();
        return deeds.size();
    }

    int close(int channel) {
        if (!channel(channel)) {
            return -1;
        }
        settleAll(held(channel), 1);
        consumers.removeIf(c -> c.channel == channel);
        channels.set(channel, new Channel());
        return 0;
    }

    int crash() {
        for (int c = 0; c < 4; c++) {
            close(c);
        }
        exchanges.values().removeIf(e -> !e.durable);
        queues.values().removeIf(q -> !q.durable);
        bindings.removeIf(b -> !exchanges.containsKey(b.e) || !queues.containsKey(b.q));
        copies.removeIf(c -> !queues.containsKey(c.q) || !c.persistent);
        return copies.size();
    }

    private static long common(Copy copy, int field) {
        return new long[] {copy.body, copy.written, copy.hops, copy.returned ? 1 : 0, copy.persistent ? 1 : 0}[field];
    }

    long ready(int q, int i, int field) {
        if (i < 0 || i >= ready(q).size() || field < 0 || field > 4) {
            return -1000000000000L;
        }
        return common(ready(q).get(i), field);
    }

    long held(int channel, int i, int field) {
        if (!channel(channel) || i < 0 || i >= held(channel).size() || field < 0 || field > 7) {
            return -1000000000000L;
        }
        Copy copy = held(channel).get(i);
        if (field < 5) {
            return common(copy, field);
        }
        return new long[] {copy.tag, copy.q, deedHas(channel, copy) ? 1 : 0}[field - 5];
    }

    int count(int what, int i) {
        int[] highest = {5, 5, 3, 3, 4, 0, 0, 3};
        if (what < 0 || what > 7 || what != 5 && what != 6 && (i < 0 || i > highest[what])) {
            return -1000;
        }
        return switch (what) {
            case 0 -> ready(i).size();
            case 1 -> row(i).size();
            case 2 -> held(i).size();
            case 3 -> channels.get(i).deeds == null ? -1 : channels.get(i).deeds.size();
            case 4 -> (int) bindings.stream().filter(b -> b.e == i).count();
            case 5 -> routed;
            case 6 -> lost;
            default -> i < row(0).size() ? row(0).get(i).channel : -1;
        };
    }
}
