import java.util.ArrayList;

/**
 * A broker of messages: exchanges, queues, bindings, channels with transactions, dead letters and crashes.
 * The document DOC.md says in numbered promises what each call does.
 */
public final class QueueBroker {
    public static final int DONE = 0;
    public static final int REFUSED = -1;
    public static final int FULL = -2;
    public static final int STATE = -3;
    public static final int UNROUTED = -4;
    public static final int EMPTY = -5;
    public static final int BLOCKED = -6;
    public static final int NOTED = 100;
    public static final long NONE = -1000000000000L;

    private static final int EXCHANGES = 5;
    private static final int QUEUES = 6;
    private static final int CHANNELS = 4;
    private static final int BINDINGS = 24;
    private static final int DEEDS = 4;
    private static final int HIGHEST_LIMIT = 12;
    private static final int HIGHEST_PREFETCH = 12;
    private static final int HIGHEST_HOPS = 3;
    private static final int LETTERS_ROUTED_IN_A_CALL = 3;
    // Far above what one call can bring up: a put drops at most what four channels can have returned.
    private static final int LETTERS_LOOKED_AT = 1000000;

    private static final int TYPE_DIRECT = 0;
    private static final int TYPE_TO_ALL = 1;
    private static final int TYPE_TOPIC = 2;

    private static final int FLAG_PERSISTENT = 1;
    private static final int FLAG_MANDATORY = 2;
    private static final int ALL_FLAGS = 3;

    private static final int HOW_ACCEPT = 0;
    private static final int HOW_RETURN = 1;
    private static final int HOW_REJECT = 2;

    private static final int DIGITS = 8;
    private static final int JOKER_ONE = 14;
    private static final int JOKER_MANY = 15;

    private static final int NO_EXCHANGE = -1;
    private static final int NO_DEED = -1;
    private static final int NOT_FOUND = -1;
    private static final int NO_SUCH_COUNT = -1000;

    private final Exchange[] exchanges = new Exchange[EXCHANGES];
    private final Queue[] queues = new Queue[QUEUES];
    private final Channel[] channels = new Channel[CHANNELS];
    private final ArrayList<Binding> bindings = new ArrayList<>();
    private final ArrayList<Copy> letters = new ArrayList<>();
    private int lastPlace = 0;
    private int lettersRouted = 0;
    private int lettersLost = 0;

    public QueueBroker() {
        for (int e = 0; e < EXCHANGES; e++) {
            exchanges[e] = new Exchange();
        }
        for (int q = 0; q < QUEUES; q++) {
            queues[q] = new Queue();
        }
        for (int c = 0; c < CHANNELS; c++) {
            channels[c] = new Channel();
        }
    }

    public int exchange(int e, int type, boolean durable) {
        if (!isWithin(e, 0, EXCHANGES - 1) || !isWithin(type, TYPE_DIRECT, TYPE_TOPIC)) {
            return REFUSED;
        }
        Exchange exchange = exchanges[e];
        if (exchange.declared) {
            return exchange.type == type && exchange.durable == durable ? DONE : STATE;
        }
        exchange.declared = true;
        exchange.type = type;
        exchange.durable = durable;
        return DONE;
    }

    public int queue(int q, int limit, int dead, boolean durable) {
        if (!isWithin(q, 0, QUEUES - 1) || !isWithin(limit, 1, HIGHEST_LIMIT)
                || !isWithin(dead, NO_EXCHANGE, EXCHANGES - 1)) {
            return REFUSED;
        }
        Queue queue = queues[q];
        if (queue.declared) {
            return queue.limit == limit && queue.dead == dead && queue.durable == durable ? DONE : STATE;
        }
        queue.declared = true;
        queue.limit = limit;
        queue.dead = dead;
        queue.durable = durable;
        return DONE;
    }

    public int bind(int e, int q, int pattern) {
        if (!isDeclaredExchange(e) || !isDeclaredQueue(q) || !isPattern(pattern)) {
            return REFUSED;
        }
        if (findBinding(e, q, pattern) != NOT_FOUND) {
            return STATE;
        }
        if (bindings.size() >= BINDINGS) {
            return FULL;
        }
        bindings.add(new Binding(e, q, pattern));
        return DONE;
    }

    public int unbind(int e, int q, int pattern) {
        if (!isDeclaredExchange(e) || !isDeclaredQueue(q) || !isPattern(pattern)) {
            return REFUSED;
        }
        int at = findBinding(e, q, pattern);
        if (at == NOT_FOUND) {
            return STATE;
        }
        bindings.remove(at);
        return DONE;
    }

    public int drop(int q) {
        if (!isDeclaredQueue(q)) {
            return REFUSED;
        }
        return forgetQueue(q);
    }

    public int publish(int channel, int e, int key, int body, int flags) {
        if (!isChannel(channel) || !isDeclaredExchange(e) || !isKey(key) || !isWithin(flags, 0, ALL_FLAGS)) {
            return REFUSED;
        }
        Channel publisher = channels[channel];
        if (publisher.inTransaction && publisher.deeds.size() >= DEEDS) {
            return FULL;
        }
        Message message = new Message(body, key, 0, (flags & FLAG_PERSISTENT) != 0);
        if (publisher.inTransaction) {
            publisher.deeds.add(new Deed(e, message, HOW_ACCEPT));
            return NOTED;
        }
        int chosen = countChosen(e, key);
        if (chosen == 0 && (flags & FLAG_MANDATORY) != 0) {
            return UNROUTED;
        }
        route(e, message);
        routeLetters();
        return chosen;
    }

    public int consume(int channel, int q, boolean automatic) {
        if (!isChannel(channel) || !isDeclaredQueue(q)) {
            return REFUSED;
        }
        if (queues[q].findConsumer(channel) != NOT_FOUND) {
            return STATE;
        }
        queues[q].row.add(new Consumer(channel, automatic));
        return DONE;
    }

    public int cancel(int channel, int q) {
        if (!isChannel(channel) || !isDeclaredQueue(q)) {
            return REFUSED;
        }
        return queues[q].removeConsumer(channel) ? DONE : STATE;
    }

    public int deliver(int q) {
        if (!isDeclaredQueue(q)) {
            return REFUSED;
        }
        Queue queue = queues[q];
        if (queue.waiting.isEmpty()) {
            return EMPTY;
        }
        int at = findAbleConsumer(queue);
        if (at == NOT_FOUND) {
            return BLOCKED;
        }
        Consumer consumer = queue.row.remove(at);
        queue.row.add(consumer);
        Copy copy = queue.waiting.remove(0);
        if (!consumer.automatic) {
            channels[consumer.channel].hold(copy);
        }
        return consumer.channel;
    }

    public int settle(int channel, int tag, boolean whole, int how) {
        if (!isChannel(channel) || tag < 0 || (tag == 0 && !whole) || !isWithin(how, HOW_ACCEPT, HOW_REJECT)) {
            return REFUSED;
        }
        Channel settler = channels[channel];
        int found = settler.countSettled(tag, whole);
        if (found == 0) {
            return REFUSED;
        }
        if (settler.inTransaction && settler.deeds.size() >= DEEDS) {
            return FULL;
        }
        int deed = settler.deeds.size();
        settler.markSettled(tag, whole, deed);
        if (settler.inTransaction) {
            settler.deeds.add(new Deed(NO_EXCHANGE, null, how));
            return NOTED;
        }
        settleMarked(settler, deed, how);
        routeLetters();
        return found;
    }

    public int prefetch(int channel, int n) {
        if (!isChannel(channel) || !isWithin(n, 1, HIGHEST_PREFETCH)) {
            return REFUSED;
        }
        channels[channel].prefetch = n;
        return DONE;
    }

    public int begin(int channel) {
        if (!isChannel(channel)) {
            return REFUSED;
        }
        if (channels[channel].inTransaction) {
            return STATE;
        }
        channels[channel].inTransaction = true;
        return DONE;
    }

    public int commit(int channel) {
        if (!isChannel(channel)) {
            return REFUSED;
        }
        Channel committer = channels[channel];
        if (!committer.inTransaction) {
            return STATE;
        }
        int deeds = committer.deeds.size();
        for (int d = 0; d < deeds; d++) {
            doDeed(committer, d);
        }
        committer.forgetDeeds();
        routeLetters();
        return deeds;
    }

    public int rollback(int channel) {
        if (!isChannel(channel)) {
            return REFUSED;
        }
        if (!channels[channel].inTransaction) {
            return STATE;
        }
        int deeds = channels[channel].deeds.size();
        channels[channel].forgetDeeds();
        return deeds;
    }

    public int close(int channel) {
        if (!isChannel(channel)) {
            return REFUSED;
        }
        closeChannel(channel);
        return DONE;
    }

    public int crash() {
        for (int c = 0; c < CHANNELS; c++) {
            closeChannel(c);
        }
        for (int e = 0; e < EXCHANGES; e++) {
            if (!exchanges[e].durable) {
                forgetExchange(e);
            }
        }
        int left = 0;
        for (int q = 0; q < QUEUES; q++) {
            if (!queues[q].durable) {
                forgetQueue(q);
            }
            queues[q].keepPersistent();
            left += queues[q].waiting.size();
        }
        return left;
    }

    public long ready(int q, int i, int field) {
        if (!isWithin(q, 0, QUEUES - 1) || !isWithin(i, 0, queues[q].waiting.size() - 1)) {
            return NONE;
        }
        return readyField(queues[q].waiting.get(i), field);
    }

    public long held(int channel, int i, int field) {
        if (!isChannel(channel) || !isWithin(i, 0, channels[channel].holding.size() - 1)) {
            return NONE;
        }
        return heldField(channels[channel].holding.get(i), field);
    }

    public int count(int what, int i) {
        switch (what) {
            case 0:
                return isWithin(i, 0, QUEUES - 1) ? queues[i].waiting.size() : NO_SUCH_COUNT;
            case 1:
                return isWithin(i, 0, QUEUES - 1) ? queues[i].row.size() : NO_SUCH_COUNT;
            case 2:
                return isChannel(i) ? channels[i].holding.size() : NO_SUCH_COUNT;
            case 3:
                return isChannel(i) ? countDeeds(i) : NO_SUCH_COUNT;
            case 4:
                return isWithin(i, 0, EXCHANGES - 1) ? countBindings(i) : NO_SUCH_COUNT;
            case 5:
                return lettersRouted;
            case 6:
                return lettersLost;
            case 7:
                return isWithin(i, 0, CHANNELS - 1) ? channelInFirstRow(i) : NO_SUCH_COUNT;
            default:
                return NO_SUCH_COUNT;
        }
    }

    private static boolean isWithin(int number, int least, int most) {
        return number >= least && number <= most;
    }

    private static boolean isChannel(int channel) {
        return isWithin(channel, 0, CHANNELS - 1);
    }

    private boolean isDeclaredExchange(int e) {
        return isWithin(e, 0, EXCHANGES - 1) && exchanges[e].declared;
    }

    private boolean isDeclaredQueue(int q) {
        return isWithin(q, 0, QUEUES - 1) && queues[q].declared;
    }

    // Items are counted from the last digit, so item 0 of a pattern is its last one.
    private static int itemAt(int pattern, int i) {
        return (pattern >>> (4 * i)) & 15;
    }

    private static int countItems(int pattern) {
        int items = 0;
        while (items < DIGITS && itemAt(pattern, items) != 0) {
            items++;
        }
        return items;
    }

    private static boolean isPattern(int pattern) {
        for (int i = countItems(pattern); i < DIGITS; i++) {
            if (itemAt(pattern, i) != 0) {
                return false;
            }
        }
        return true;
    }

    private static boolean isKey(int key) {
        for (int i = 0; i < DIGITS; i++) {
            if (itemAt(key, i) >= JOKER_ONE) {
                return false;
            }
        }
        return isPattern(key);
    }

    // Bit n of reached says that the items so far can stand for exactly n words of the key; all are read from the end.
    private static boolean isMatch(int pattern, int key) {
        int items = countItems(pattern);
        int words = countItems(key);
        int reached = 1;
        for (int i = 0; i < items; i++) {
            reached = reachFurther(reached, itemAt(pattern, i), key);
        }
        return ((reached >> words) & 1) != 0;
    }

    private static int reachFurther(int reached, int item, int key) {
        if (item == JOKER_ONE) {
            return reached << 1;
        }
        if (item == JOKER_MANY) {
            int least = reached & -reached;
            return -least;
        }
        int further = 0;
        for (int n = 0; n < DIGITS; n++) {
            if (((reached >> n) & 1) != 0 && itemAt(key, n) == item) {
                further |= 1 << (n + 1);
            }
        }
        return further;
    }

    private int findBinding(int e, int q, int pattern) {
        for (int b = 0; b < bindings.size(); b++) {
            Binding binding = bindings.get(b);
            if (binding.exchange == e && binding.queue == q && binding.pattern == pattern) {
                return b;
            }
        }
        return NOT_FOUND;
    }

    private int countBindings(int e) {
        int found = 0;
        for (int b = 0; b < bindings.size(); b++) {
            if (bindings.get(b).exchange == e) {
                found++;
            }
        }
        return found;
    }

    // A pattern that is the key itself fits in a topic exchange too, so only the rest needs matching.
    private boolean isChosen(int e, int q, int key) {
        int type = exchanges[e].type;
        for (int b = 0; b < bindings.size(); b++) {
            Binding binding = bindings.get(b);
            if (binding.exchange == e && binding.queue == q && (type == TYPE_TO_ALL || binding.pattern == key
                    || (type == TYPE_TOPIC && isMatch(binding.pattern, key)))) {
                return true;
            }
        }
        return false;
    }

    private int countChosen(int e, int key) {
        int chosen = 0;
        for (int q = 0; q < QUEUES; q++) {
            if (isChosen(e, q, key)) {
                chosen++;
            }
        }
        return chosen;
    }

    private void route(int e, Message message) {
        for (int q = 0; q < QUEUES; q++) {
            if (isChosen(e, q, message.key)) {
                put(q, message);
            }
        }
    }

    private void put(int q, Message message) {
        Queue queue = queues[q];
        lastPlace++;
        queue.insert(new Copy(message, q, lastPlace));
        // More than one may be too many: copies that came back are let in above the limit.
        for (int excess = queue.waiting.size() - queue.limit; excess > 0; excess--) {
            letters.add(queue.waiting.remove(0));
        }
    }

    private void routeLetters() {
        int routed = 0;
        // Routing adds further letters behind, so the size is read anew each time.
        for (int i = 0; i < letters.size() && i < LETTERS_LOOKED_AT; i++) {
            Copy letter = letters.get(i);
            if (routed < LETTERS_ROUTED_IN_A_CALL && canGoOn(letter)) {
                routed++;
                route(queues[letter.queue].dead, letter.message.withOneHopMore());
            } else {
                lettersLost++;
            }
        }
        lettersRouted += routed;
        letters.clear();
    }

    private boolean canGoOn(Copy letter) {
        return isDeclaredExchange(queues[letter.queue].dead) && letter.message.hops < HIGHEST_HOPS;
    }

    private int findAbleConsumer(Queue queue) {
        for (int i = 0; i < queue.row.size(); i++) {
            Consumer consumer = queue.row.get(i);
            Channel channel = channels[consumer.channel];
            if (consumer.automatic || channel.holding.size() < channel.prefetch) {
                return i;
            }
        }
        return NOT_FOUND;
    }

    private void settleMarked(Channel settler, int deed, int how) {
        int size = settler.holding.size();
        int at = 0;
        for (int seen = 0; seen < size; seen++) {
            if (settler.holding.get(at).deed == deed) {
                settleCopy(settler.holding.remove(at), how);
            } else {
                at++;
            }
        }
    }

    private void settleCopy(Copy copy, int how) {
        if (how == HOW_RETURN) {
            giveBack(copy);
        } else if (how == HOW_REJECT) {
            letters.add(copy);
        }
    }

    private void giveBack(Copy copy) {
        copy.returned = true;
        queues[copy.queue].insert(copy);
    }

    private void doDeed(Channel committer, int d) {
        Deed deed = committer.deeds.get(d);
        if (deed.message == null) {
            settleMarked(committer, d, deed.how);
        } else if (isDeclaredExchange(deed.exchange)) {
            route(deed.exchange, deed.message);
        }
    }

    private void closeChannel(int c) {
        Channel channel = channels[c];
        for (int i = 0; i < channel.holding.size(); i++) {
            giveBack(channel.holding.get(i));
        }
        for (int q = 0; q < QUEUES; q++) {
            queues[q].removeConsumer(c);
        }
        channel.reset();
    }

    private void forgetExchange(int e) {
        exchanges[e].declared = false;
        for (int b = bindings.size() - 1; b >= 0; b--) {
            if (bindings.get(b).exchange == e) {
                bindings.remove(b);
            }
        }
    }

    private int forgetQueue(int q) {
        for (int b = bindings.size() - 1; b >= 0; b--) {
            if (bindings.get(b).queue == q) {
                bindings.remove(b);
            }
        }
        int copies = queues[q].waiting.size();
        for (int c = 0; c < CHANNELS; c++) {
            copies += channels[c].letGoOf(q);
        }
        queues[q].reset();
        return copies;
    }

    private static long readyField(Copy copy, int field) {
        switch (field) {
            case 0:
                return copy.message.body;
            case 1:
                return copy.message.key;
            case 2:
                return copy.message.hops;
            case 3:
                return copy.returned ? 1 : 0;
            case 4:
                return copy.message.persistent ? 1 : 0;
            default:
                return NONE;
        }
    }

    private static long heldField(Copy copy, int field) {
        switch (field) {
            case 5:
                return copy.tag;
            case 6:
                return copy.queue;
            case 7:
                return copy.deed == NO_DEED ? 0 : 1;
            default:
                return readyField(copy, field);
        }
    }

    private int countDeeds(int c) {
        return channels[c].inTransaction ? channels[c].deeds.size() : -1;
    }

    private int channelInFirstRow(int i) {
        return i < queues[0].row.size() ? queues[0].row.get(i).channel : -1;
    }

    private static final class Exchange {
        boolean declared = false;
        int type = TYPE_DIRECT;
        boolean durable = false;
    }

    private static final class Binding {
        final int exchange;
        final int queue;
        final int pattern;

        Binding(int exchange, int queue, int pattern) {
            this.exchange = exchange;
            this.queue = queue;
            this.pattern = pattern;
        }
    }

    private static final class Message {
        final int body;
        final int key;
        final int hops;
        final boolean persistent;

        Message(int body, int key, int hops, boolean persistent) {
            this.body = body;
            this.key = key;
            this.hops = hops;
            this.persistent = persistent;
        }

        Message withOneHopMore() {
            return new Message(body, key, hops + 1, persistent);
        }
    }

    private static final class Copy {
        final Message message;
        final int queue;
        final int place;
        boolean returned = false;
        int tag = 0;
        int deed = NO_DEED;

        Copy(Message message, int queue, int place) {
            this.message = message;
            this.queue = queue;
            this.place = place;
        }
    }

    private static final class Consumer {
        final int channel;
        final boolean automatic;

        Consumer(int channel, boolean automatic) {
            this.channel = channel;
            this.automatic = automatic;
        }
    }

    /** What a channel will do at its commit: publish its message or, without one, settle the copies marked with it. */
    private static final class Deed {
        final int exchange;
        final Message message;
        final int how;

        Deed(int exchange, Message message, int how) {
            this.exchange = exchange;
            this.message = message;
            this.how = how;
        }
    }

    private static final class Queue {
        boolean declared = false;
        int limit = 1;
        int dead = NO_EXCHANGE;
        boolean durable = false;
        final ArrayList<Copy> waiting = new ArrayList<>();
        final ArrayList<Consumer> row = new ArrayList<>();

        void insert(Copy copy) {
            int at = waiting.size();
            while (at > 0 && waiting.get(at - 1).place > copy.place) {
                at--;
            }
            waiting.add(at, copy);
        }

        int findConsumer(int channel) {
            for (int i = 0; i < row.size(); i++) {
                if (row.get(i).channel == channel) {
                    return i;
                }
            }
            return NOT_FOUND;
        }

        boolean removeConsumer(int channel) {
            int at = findConsumer(channel);
            if (at == NOT_FOUND) {
                return false;
            }
            row.remove(at);
            return true;
        }

        void keepPersistent() {
            for (int i = waiting.size() - 1; i >= 0; i--) {
                if (!waiting.get(i).message.persistent) {
                    waiting.remove(i);
                }
            }
        }

        void reset() {
            declared = false;
            waiting.clear();
            row.clear();
        }
    }

    private static final class Channel {
        int prefetch = HIGHEST_PREFETCH;
        boolean inTransaction = false;
        int lastTag = 0;
        // Copies come in with ever higher tags, so the list stays in the order of tags.
        final ArrayList<Copy> holding = new ArrayList<>();
        final ArrayList<Deed> deeds = new ArrayList<>();

        void hold(Copy copy) {
            lastTag++;
            copy.tag = lastTag;
            copy.deed = NO_DEED;
            holding.add(copy);
        }

        boolean isSettled(Copy copy, int tag, boolean whole) {
            if (copy.deed != NO_DEED) {
                return false;
            }
            return whole ? tag == 0 || copy.tag <= tag : copy.tag == tag;
        }

        int countSettled(int tag, boolean whole) {
            int found = 0;
            for (int i = 0; i < holding.size(); i++) {
                if (isSettled(holding.get(i), tag, whole)) {
                    found++;
                }
            }
            return found;
        }

        void markSettled(int tag, boolean whole, int deed) {
            for (int i = 0; i < holding.size(); i++) {
                if (isSettled(holding.get(i), tag, whole)) {
                    holding.get(i).deed = deed;
                }
            }
        }

        int letGoOf(int queue) {
            int gone = 0;
            for (int i = holding.size() - 1; i >= 0; i--) {
                if (holding.get(i).queue == queue) {
                    holding.remove(i);
                    gone++;
                }
            }
            return gone;
        }

        void forgetDeeds() {
            deeds.clear();
            for (int i = 0; i < holding.size(); i++) {
                holding.get(i).deed = NO_DEED;
            }
        }

        void reset() {
            prefetch = HIGHEST_PREFETCH;
            inTransaction = false;
            lastTag = 0;
            holding.clear();
            deeds.clear();
        }
    }
}
