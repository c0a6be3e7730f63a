/**
 * A simulator of an overlay of peers: introductions, relayed and direct sessions, messages that are
 * delivered in order, keys, links that fail, undo and snapshots.
 */
public final class PeerOverlay {
    public static final int NONE = -1;
    public static final int DIRECT = 100;

    private static final int MOST_BYTES = 600;
    private static final int BYTES_PER_APPEND = 20;
    private static final int MOST_PEERS = 8;
    private static final int MOST_SESSIONS = 6;
    private static final int MOST_UNDELIVERED = 24;
    private static final int MOST_CHANGES = 10;
    private static final int MOST_SLOTS = 2;
    private static final int MOST_TICKS = 300;
    private static final int LAST_TICK = 9999;

    private static final int WAITING = 0;
    private static final int TRAVELLING = 1;
    private static final int KEPT = 2;
    private static final int DELIVERED = 3;

    private final byte[] buffer;
    private int buffered;
    private int errorAt;
    /** The overlay in use; draft is a second row that parse fills, so that a failed parse harms nothing. */
    private Plan plan;
    private Plan draft;
    private final Situation now;
    private final Situation forecast;
    private final History history;
    private final Situation[] snapshots;
    private final boolean[] saved;

    public PeerOverlay() {
        buffer = new byte[MOST_BYTES];
        buffered = 0;
        errorAt = NONE;
        plan = new Plan();
        draft = new Plan();
        now = new Situation();
        forecast = new Situation();
        history = new History();
        snapshots = new Situation[MOST_SLOTS];
        for (int slot = 0; slot < MOST_SLOTS; slot++) {
            snapshots[slot] = new Situation();
        }
        saved = new boolean[MOST_SLOTS];
    }

    // ---- overlay

    public int append(int a, int b, int c, int d, int e) {
        if (buffered > MOST_BYTES - BYTES_PER_APPEND) {
            return NONE;
        }
        putFourBytes(a);
        putFourBytes(b);
        putFourBytes(c);
        putFourBytes(d);
        putFourBytes(e);
        return buffered;
    }

    public int parse(int length) throws IllegalArgumentException {
        if (length < 0 || length > buffered) {
            throw new IllegalArgumentException("the length is out of range");
        }
        Reader reader = new Reader(buffer, length, draft);
        int code = reader.readOverlay();
        buffered = 0;
        if (code != 0) {
            errorAt = reader.errorAt;
            return code;
        }
        errorAt = NONE;
        useDraft();
        return 0;
    }

    public int errorPosition() {
        return errorAt;
    }

    public int peerCount() {
        return plan.peers;
    }

    public int tick() {
        return now.tick;
    }

    // ---- peers, links, introductions

    public boolean knows(int a, int b) throws IndexOutOfBoundsException {
        checkPeers(a, b);
        return now.acquainted(a, b);
    }

    public int delay(int a, int b) throws IndexOutOfBoundsException {
        checkPeers(a, b);
        return now.linkIsUp(a, b) ? plan.delayBetween(a, b) : NONE;
    }

    public int introductionsNeeded(int a, int b) throws IndexOutOfBoundsException, IllegalArgumentException {
        checkTwoPeers(a, b);
        int steps = now.stepsBetween(a, b);
        // Each introduction can shorten the chain of acquaintances by one step, and never by more.
        return steps == NONE ? NONE : steps - 1;
    }

    public int introducer(int a, int b) throws IndexOutOfBoundsException, IllegalArgumentException {
        checkTwoPeers(a, b);
        for (int peer = 0; peer < plan.peers; peer++) {
            if (now.acquainted(peer, a) && now.acquainted(peer, b)) {
                return peer;
            }
        }
        return NONE;
    }

    public int load(int peer) throws IndexOutOfBoundsException {
        checkPeer(peer);
        return now.loadOf(peer);
    }

    public int bestRelay(int sender, int receiver) throws IndexOutOfBoundsException, IllegalArgumentException {
        checkTwoPeers(sender, receiver);
        return now.chooseRelay(plan, sender, receiver);
    }

    public int relayScore(int relay, int sender, int receiver)
            throws IndexOutOfBoundsException, IllegalArgumentException, IllegalStateException {
        checkThreePeers(relay, sender, receiver);
        if (!now.canRelay(relay, sender, receiver)) {
            throw new IllegalStateException("this peer can't be the relay");
        }
        return now.scoreOf(plan, relay, sender, receiver);
    }

    // ---- sessions

    public int sessions() {
        int bits = 0;
        for (int number = 0; number < MOST_SESSIONS; number++) {
            if (now.sessions[number].open) {
                bits |= 1 << number;
            }
        }
        return bits;
    }

    public int session(int sender, int receiver) throws IndexOutOfBoundsException, IllegalArgumentException {
        checkTwoPeers(sender, receiver);
        return now.findSession(sender, receiver);
    }

    public int path(int session) throws IndexOutOfBoundsException {
        return openSession(session).path;
    }

    public int oldPath(int session) throws IndexOutOfBoundsException {
        return openSession(session).oldPath;
    }

    public int successes(int session) throws IndexOutOfBoundsException {
        return openSession(session).successes;
    }

    // ---- messages and keys

    public int messages(int session, int state) throws IndexOutOfBoundsException, IllegalArgumentException {
        Session asked = openSession(session);
        if (state < WAITING || state > DELIVERED) {
            throw new IllegalArgumentException("the state is out of range");
        }
        return state == DELIVERED ? asked.delivered : asked.countUndelivered(state);
    }

    public int lastValue(int session) throws IndexOutOfBoundsException, IllegalStateException {
        Session asked = openSession(session);
        if (asked.delivered == 0) {
            throw new IllegalStateException("no message was delivered");
        }
        return asked.lastValue;
    }

    public int digest(int session) throws IndexOutOfBoundsException {
        return openSession(session).digest;
    }

    public int key(int session) throws IndexOutOfBoundsException {
        return openSession(session).key;
    }

    public int oldestKey(int session) throws IndexOutOfBoundsException {
        return openSession(session).firstNeededKey();
    }

    public int keyStart(int session) throws IndexOutOfBoundsException {
        Session asked = openSession(session);
        return asked.sent - asked.sentWithKey;
    }

    // ---- predictions: nothing changes by them

    public int ticksToDeliver(int session) throws IndexOutOfBoundsException {
        Session watched = forecastOf(session);
        for (int ticks = 0; ticks <= MOST_TICKS; ticks++) {
            if (watched.delivered == watched.sent) {
                return ticks;
            }
            forecast.passTick(plan);
        }
        return NONE;
    }

    public int ticksToDirect(int session) throws IndexOutOfBoundsException {
        Session watched = forecastOf(session);
        for (int ticks = 0; ticks <= MOST_TICKS; ticks++) {
            if (watched.path == DIRECT) {
                return ticks;
            }
            forecast.passTick(plan);
        }
        return NONE;
    }

    // ---- changes

    public int run(int ticks) throws IllegalArgumentException, IllegalStateException {
        if (ticks < 1 || ticks > MOST_TICKS) {
            throw new IllegalArgumentException("the number of ticks is out of range");
        }
        if (ticks > LAST_TICK - now.tick) {
            throw new IllegalStateException("the number of the tick would be too large");
        }
        history.keep(now);
        int delivered = 0;
        for (int done = 0; done < ticks; done++) {
            delivered += now.passTick(plan);
        }
        return delivered;
    }

    public int introduce(int peer, int a, int b)
            throws IndexOutOfBoundsException, IllegalArgumentException, IllegalStateException {
        checkThreePeers(peer, a, b);
        if (!now.acquainted(peer, a) || !now.acquainted(peer, b)) {
            throw new IllegalStateException("the peer does not know both");
        }
        if (now.acquainted(a, b)) {
            throw new IllegalStateException("the two know each other already");
        }
        history.keep(now);
        now.acquaint(a, b);
        return Integer.bitCount(now.known[a]);
    }

    public int open(int sender, int receiver)
            throws IndexOutOfBoundsException, IllegalArgumentException, IllegalStateException {
        checkTwoPeers(sender, receiver);
        int number = now.freeSession();
        if (number == NONE) {
            throw new IllegalStateException("all sessions are open");
        }
        if (!now.acquainted(sender, receiver)) {
            throw new IllegalStateException("the two don't know each other");
        }
        if (now.findSession(sender, receiver) != NONE) {
            throw new IllegalStateException("there is such a session already");
        }
        history.keep(now);
        int relay = now.chooseRelay(plan, sender, receiver);
        now.sessions[number].begin(sender, receiver, now.tick, relay);
        return number;
    }

    public int send(int session, int value) throws IndexOutOfBoundsException, IllegalStateException {
        Session used = openSession(session);
        if (used.sent - used.delivered >= MOST_UNDELIVERED) {
            throw new IllegalStateException("too many messages are not delivered");
        }
        history.keep(now);
        return used.addMessage(value, plan.many, now.tick + plan.delayAlong(used));
    }

    public int setLink(int a, int b, boolean up)
            throws IndexOutOfBoundsException, IllegalArgumentException, IllegalStateException {
        checkTwoPeers(a, b);
        if (plan.delayBetween(a, b) == 0) {
            throw new IllegalStateException("there is no such link");
        }
        if (now.linkIsUp(a, b) == up) {
            throw new IllegalStateException("the link is so already");
        }
        history.keep(now);
        now.turnLink(a, b);
        return up ? 0 : now.leaveLink(plan, a, b);
    }

    public int close(int session) throws IndexOutOfBoundsException, IllegalStateException {
        Session closed = openSession(session);
        if (closed.delivered != closed.sent) {
            throw new IllegalStateException("a message has not been delivered");
        }
        history.keep(now);
        closed.open = false;
        return closed.sent;
    }

    // ---- undo and snapshots

    public int undo() {
        return history.takeBack(now);
    }

    public boolean saveSnapshot(int slot) throws IndexOutOfBoundsException {
        checkSlot(slot);
        boolean earlier = saved[slot];
        snapshots[slot].copyFrom(now);
        saved[slot] = true;
        return earlier;
    }

    public int restoreSnapshot(int slot) throws IndexOutOfBoundsException, IllegalStateException {
        checkSlot(slot);
        if (!saved[slot]) {
            throw new IllegalStateException("the slot is empty");
        }
        now.copyFrom(snapshots[slot]);
        history.forget();
        return now.tick;
    }

    // ---- helpers of the face

    private void putFourBytes(int four) {
        for (int shift = 24; shift >= 0; shift -= 8) {
            if (buffered < MOST_BYTES) {
                buffer[buffered] = (byte) (four >> shift);
                buffered++;
            }
        }
    }

    private void useDraft() {
        Plan former = plan;
        plan = draft;
        draft = former;
        now.beginWith(plan);
        history.forget();
        for (int slot = 0; slot < MOST_SLOTS; slot++) {
            saved[slot] = false;
        }
    }

    private void checkPeer(int peer) {
        if (peer < 0 || peer >= plan.peers) {
            throw new IndexOutOfBoundsException("there is no such peer");
        }
    }

    private void checkPeers(int a, int b) {
        checkPeer(a);
        checkPeer(b);
    }

    private void checkTwoPeers(int a, int b) {
        checkPeers(a, b);
        if (a == b) {
            throw new IllegalArgumentException("both peers are the same");
        }
    }

    private void checkThreePeers(int a, int b, int c) {
        checkPeer(a);
        checkPeers(b, c);
        if (a == b || a == c || b == c) {
            throw new IllegalArgumentException("two of the peers are the same");
        }
    }

    private void checkSlot(int slot) {
        if (slot < 0 || slot >= MOST_SLOTS) {
            throw new IndexOutOfBoundsException("there is no such slot");
        }
    }

    private Session openSession(int session) {
        if (session < 0 || session >= MOST_SESSIONS || !now.sessions[session].open) {
            throw new IndexOutOfBoundsException("there is no such session");
        }
        return now.sessions[session];
    }

    private Session forecastOf(int session) {
        openSession(session);
        forecast.copyFrom(now);
        return forecast.sessions[session];
    }

    /** What a text describes; changes never touch it. */
    private static final class Plan {
        private int peers;
        private final int[] capacities = new int[MOST_PEERS];
        private final int[] zones = new int[MOST_PEERS];
        /** Row by row; 0 where there is no link, since a delay is at least 1. */
        private final int[] delays = new int[MOST_PEERS * MOST_PEERS];
        private final int[] known = new int[MOST_PEERS];
        private final Score score = new Score();
        private int period;
        private int need;
        private int many;

        private Plan() {
            clear();
        }

        private void clear() {
            peers = 0;
            for (int cell = 0; cell < MOST_PEERS * MOST_PEERS; cell++) {
                delays[cell] = 0;
            }
            for (int peer = 0; peer < MOST_PEERS; peer++) {
                known[peer] = 0;
            }
            score.useDefault();
            period = 3;
            need = 2;
            many = 10;
        }

        private void addPeer(int capacity, int zone) {
            if (peers < MOST_PEERS) {
                capacities[peers] = capacity;
                zones[peers] = zone;
                peers++;
            }
        }

        private void addLink(int a, int b, int delay) {
            delays[a * MOST_PEERS + b] = delay;
            delays[b * MOST_PEERS + a] = delay;
        }

        private void addAcquaintance(int a, int b) {
            known[a] |= 1 << b;
            known[b] |= 1 << a;
        }

        private int delayBetween(int a, int b) {
            return delays[a * MOST_PEERS + b];
        }

        /** The delay of the session's present path; 0 if it has none. */
        private int delayAlong(Session session) {
            if (session.path == DIRECT) {
                return delayBetween(session.sender, session.receiver);
            }
            if (session.path == NONE) {
                return 0;
            }
            return delayBetween(session.sender, session.path) + delayBetween(session.path, session.receiver);
        }

        private int zonesCrossed(int relay, int sender, int receiver) {
            int crossed = zones[sender] != zones[relay] ? 1 : 0;
            return zones[receiver] != zones[relay] ? crossed + 1 : crossed;
        }
    }

    /** The formula for relays in postfix order: numbers as they are, all else as negative codes. */
    private static final class Score {
        private static final int FIRST = -1;
        private static final int SECOND = -2;
        private static final int LOAD = -3;
        private static final int CAPACITY = -4;
        private static final int ZONES = -5;
        private static final int PLUS = -6;
        private static final int MINUS = -7;
        private static final int TIMES = -8;
        private static final int OVER = -9;
        /** Six levels (five brackets) leave two values each behind while a third is worked out. */
        private static final int MOST_VALUES = 16;

        private final int[] items = new int[MOST_BYTES];
        private int count;
        private final int[] values = new int[MOST_VALUES];
        private int held;

        private void clear() {
            count = 0;
        }

        private void useDefault() {
            clear();
            put(FIRST);
            put(SECOND);
            put(PLUS);
            put(LOAD);
            put(10);
            put(TIMES);
            put(PLUS);
        }

        private void put(int item) {
            if (count < MOST_BYTES) {
                items[count] = item;
                count++;
            }
        }

        private int worth(int first, int second, int load, int capacity, int zones) {
            held = 0;
            for (int at = 0; at < count; at++) {
                switch (items[at]) {
                    case FIRST: hold(first); break;
                    case SECOND: hold(second); break;
                    case LOAD: hold(load); break;
                    case CAPACITY: hold(capacity); break;
                    case ZONES: hold(zones); break;
                    case PLUS:
                    case MINUS:
                    case TIMES:
                    case OVER: combine(items[at]); break;
                    default: hold(items[at]); break;
                }
            }
            return held > 0 ? values[held - 1] : 0;
        }

        private void hold(int value) {
            if (held < MOST_VALUES) {
                values[held] = value;
                held++;
            }
        }

        private void combine(int operator) {
            if (held < 2) {
                return;
            }
            int right = values[held - 1];
            int left = values[held - 2];
            held--;
            int result;
            switch (operator) {
                case PLUS: result = left + right; break;
                case MINUS: result = left - right; break;
                case TIMES: result = left * right; break;
                default: result = right == 0 ? 0 : left / right; break;
            }
            values[held - 1] = result;
        }
    }

    /** Reads an overlay text into a plan; after the first error nothing is read any more. */
    private static final class Reader {
        private static final int NOT_ALLOWED = 1;
        private static final int REPEATED = 2;
        private static final int OUT_OF_RANGE = 3;
        private static final int TOO_MANY = 4;
        private static final int SAME_PEER = 5;

        /** Kinds of tokens; a sign such as ; is its own kind. */
        private static final int END = 0;
        private static final int WORD = 1;
        private static final int NUMBER = 2;
        private static final int INVALID = 3;

        private static final int LONGEST_WORD = 8;
        private static final int LONGEST_NUMBER = 4;
        private static final int MOST_BRACKETS = 5;

        private static final int SCORE = 1;
        private static final int PROBE = 2;
        private static final int KEYS = 4;

        private final byte[] text;
        private final int length;
        private final Plan plan;
        private int next;
        private int start;
        private int kind;
        private int number;
        /** The statements that were seen of those that can occur once. */
        private int seen;
        private int error;
        private int errorAt;

        private Reader(byte[] text, int length, Plan plan) {
            this.text = text;
            this.length = length;
            this.plan = plan;
            errorAt = NONE;
        }

        private int readOverlay() {
            plan.clear();
            advance();
            for (int statements = 0; statements < MOST_BYTES && kind != END; statements++) {
                readStatement();
                require(';');
                advance();
            }
            return error;
        }

        private void readStatement() {
            if (wordIs("peer")) {
                readPeer();
            } else if (wordIs("link")) {
                readLink();
            } else if (wordIs("knows")) {
                readKnows();
            } else if (wordIs("score")) {
                if (beginsOnly(SCORE)) {
                    plan.score.clear();
                    readSum(0);
                }
            } else if (wordIs("probe")) {
                if (beginsOnly(PROBE)) {
                    plan.period = readNumber(1, 20, NONE);
                    plan.need = readNumber(1, 9, NONE);
                }
            } else if (wordIs("keys")) {
                if (beginsOnly(KEYS)) {
                    plan.many = readNumber(1, 99, NONE);
                }
            } else {
                fail(NOT_ALLOWED);
            }
        }

        private void readPeer() {
            if (plan.peers >= MOST_PEERS) {
                fail(TOO_MANY);
                return;
            }
            advance();
            int capacity = readNumber(0, 9, NONE);
            int zone = readNumber(0, 9, NONE);
            if (error == 0) {
                plan.addPeer(capacity, zone);
            }
        }

        private void readLink() {
            advance();
            int first = readNumber(0, plan.peers - 1, NONE);
            int second = readNumber(0, plan.peers - 1, first);
            int delay = readNumber(1, 99, NONE);
            if (error == 0) {
                plan.addLink(first, second, delay);
            }
        }

        private void readKnows() {
            advance();
            int first = readNumber(0, plan.peers - 1, NONE);
            int second = readNumber(0, plan.peers - 1, first);
            if (error == 0) {
                plan.addAcquaintance(first, second);
            }
        }

        private boolean beginsOnly(int statement) {
            if ((seen & statement) != 0) {
                fail(REPEATED);
                return false;
            }
            seen |= statement;
            advance();
            return true;
        }

        /** Reads a number; one that is the same as the first peer is refused. After an error it is 0. */
        private int readNumber(int low, int high, int firstPeer) {
            if (kind != NUMBER) {
                fail(NOT_ALLOWED);
                return 0;
            }
            int read = number;
            if (read < low || read > high) {
                fail(OUT_OF_RANGE);
                return 0;
            }
            if (read == firstPeer) {
                fail(SAME_PEER);
                return 0;
            }
            advance();
            return read;
        }

        private void readSum(int brackets) {
            readTerm(brackets);
            for (int more = 0; more < MOST_BYTES && (kind == '+' || kind == '-'); more++) {
                int operator = kind == '+' ? Score.PLUS : Score.MINUS;
                advance();
                readTerm(brackets);
                plan.score.put(operator);
            }
        }

        private void readTerm(int brackets) {
            readFactor(brackets);
            for (int more = 0; more < MOST_BYTES && (kind == '*' || kind == '/'); more++) {
                int operator = kind == '*' ? Score.TIMES : Score.OVER;
                advance();
                readFactor(brackets);
                plan.score.put(operator);
            }
        }

        private void readFactor(int brackets) {
            if (kind == NUMBER) {
                plan.score.put(number);
                advance();
            } else if (kind == WORD) {
                readInput();
                advance();
            } else if (kind != '(') {
                fail(NOT_ALLOWED);
            } else if (brackets >= MOST_BRACKETS) {
                fail(TOO_MANY);
            } else {
                advance();
                readSum(brackets + 1);
                require(')');
                advance();
            }
        }

        private void readInput() {
            if (wordIs("first")) {
                plan.score.put(Score.FIRST);
            } else if (wordIs("second")) {
                plan.score.put(Score.SECOND);
            } else if (wordIs("load")) {
                plan.score.put(Score.LOAD);
            } else if (wordIs("capacity")) {
                plan.score.put(Score.CAPACITY);
            } else if (wordIs("zones")) {
                plan.score.put(Score.ZONES);
            } else {
                fail(NOT_ALLOWED);
            }
        }

        private void require(int sign) {
            if (kind != sign) {
                fail(NOT_ALLOWED);
            }
        }

        private boolean wordIs(String word) {
            if (kind != WORD || next - start != word.length()) {
                return false;
            }
            for (int at = 0; at < word.length(); at++) {
                if (text[start + at] != word.charAt(at)) {
                    return false;
                }
            }
            return true;
        }

        /** The first failure is the one with the smallest position, as the text is read from the left. */
        private void fail(int code) {
            if (error == 0) {
                error = code;
                errorAt = start;
            }
            kind = END;
        }

        private void advance() {
            if (error != 0) {
                return;
            }
            while (next < length && (text[next] == ' ' || text[next] == '\n')) {
                next++;
            }
            start = next;
            if (next >= length) {
                kind = END;
            } else if (text[next] >= 'a' && text[next] <= 'z') {
                takeWord();
            } else if (text[next] >= '0' && text[next] <= '9') {
                takeNumber();
            } else {
                takeSign();
            }
        }

        private void takeWord() {
            while (next < length && text[next] >= 'a' && text[next] <= 'z') {
                next++;
            }
            kind = next - start <= LONGEST_WORD ? WORD : INVALID;
        }

        private void takeNumber() {
            number = 0;
            while (next < length && text[next] >= '0' && text[next] <= '9') {
                number = number * 10 + text[next] - '0';
                next++;
            }
            kind = next - start <= LONGEST_NUMBER ? NUMBER : INVALID;
        }

        private void takeSign() {
            int sign = text[next];
            next++;
            switch (sign) {
                case ';':
                case '(':
                case ')':
                case '+':
                case '-':
                case '*':
                case '/': kind = sign; break;
                default: kind = INVALID; break;
            }
        }
    }

    /** A session with those of its messages that are not delivered. */
    private static final class Session {
        /** In place of the route of a message that has arrived and is kept by the receiver. */
        private static final int ARRIVED = -2;

        private boolean open;
        private int sender;
        private int receiver;
        private int opened;
        private int path;
        private int oldPath;
        private int successes;
        private int sent;
        private int delivered;
        private int key;
        private int sentWithKey;
        private int lastValue;
        private int digest;
        /** Rows of messages; message n stands at n modulo their length, which is enough for all undelivered ones. */
        private final int[] values = new int[MOST_UNDELIVERED];
        private final int[] keys = new int[MOST_UNDELIVERED];
        /** The relay or DIRECT while it travels, NONE while it waits. */
        private final int[] routes = new int[MOST_UNDELIVERED];
        private final int[] arrivals = new int[MOST_UNDELIVERED];

        private void begin(int from, int to, int tick, int relay) {
            open = true;
            sender = from;
            receiver = to;
            opened = tick;
            path = relay;
            oldPath = NONE;
            successes = 0;
            sent = 0;
            delivered = 0;
            key = 0;
            sentWithKey = 0;
            lastValue = 0;
            digest = 0;
        }

        private void copyFrom(Session other) {
            open = other.open;
            sender = other.sender;
            receiver = other.receiver;
            opened = other.opened;
            path = other.path;
            oldPath = other.oldPath;
            successes = other.successes;
            sent = other.sent;
            delivered = other.delivered;
            key = other.key;
            sentWithKey = other.sentWithKey;
            lastValue = other.lastValue;
            digest = other.digest;
            System.arraycopy(other.values, 0, values, 0, MOST_UNDELIVERED);
            System.arraycopy(other.keys, 0, keys, 0, MOST_UNDELIVERED);
            System.arraycopy(other.routes, 0, routes, 0, MOST_UNDELIVERED);
            System.arraycopy(other.arrivals, 0, arrivals, 0, MOST_UNDELIVERED);
        }

        private static int placeOf(int message) {
            return Math.floorMod(message, MOST_UNDELIVERED);
        }

        private int addMessage(int value, int many, int arrival) {
            if (sentWithKey >= many) {
                takeNextKey();
            }
            int message = sent;
            int place = placeOf(message);
            values[place] = value;
            keys[place] = key;
            routes[place] = path;
            arrivals[place] = arrival;
            sent++;
            sentWithKey++;
            return message;
        }

        private void takeNextKey() {
            key++;
            sentWithKey = 0;
        }

        private void changePath(int newPath) {
            if (newPath != path && sentWithKey > 0) {
                takeNextKey();
            }
            path = newPath;
        }

        private void startWaiting(int arrival) {
            for (int message = delivered; message < sent; message++) {
                int place = placeOf(message);
                if (routes[place] == NONE) {
                    routes[place] = path;
                    arrivals[place] = arrival;
                }
            }
        }

        /** Returns how many messages are delivered by what arrives in this tick. */
        private int takeArrivals(int tick) {
            for (int message = delivered; message < sent; message++) {
                int place = placeOf(message);
                if (routes[place] >= 0 && arrivals[place] == tick) {
                    routes[place] = ARRIVED;
                }
            }
            int before = delivered;
            while (delivered < sent && routes[placeOf(delivered)] == ARRIVED) {
                lastValue = values[placeOf(delivered)];
                digest = 31 * digest + lastValue;
                delivered++;
            }
            return delivered - before;
        }

        private void dropEmptyOldPath() {
            if (oldPath == NONE) {
                return;
            }
            for (int message = delivered; message < sent; message++) {
                if (routes[placeOf(message)] == oldPath) {
                    return;
                }
            }
            oldPath = NONE;
        }

        /** Moves the messages that travel over a link to the present path; they wait if there is none. */
        private int moveMessages(int a, int b, int arrival) {
            int moved = 0;
            for (int message = delivered; message < sent; message++) {
                int place = placeOf(message);
                if (routeUses(routes[place], a, b)) {
                    routes[place] = path;
                    arrivals[place] = arrival;
                    moved++;
                }
            }
            return moved;
        }

        private boolean routeUses(int route, int a, int b) {
            if (route == DIRECT) {
                return samePair(sender, receiver, a, b);
            }
            return route >= 0 && (samePair(sender, route, a, b) || samePair(route, receiver, a, b));
        }

        private static boolean samePair(int a, int b, int c, int d) {
            return a == c && b == d || a == d && b == c;
        }

        private boolean leadsOver(int peer) {
            return open && (path == peer || oldPath == peer);
        }

        private int countUndelivered(int state) {
            int count = 0;
            for (int message = delivered; message < sent; message++) {
                if (stateOf(routes[placeOf(message)]) == state) {
                    count++;
                }
            }
            return count;
        }

        private static int stateOf(int route) {
            if (route == NONE) {
                return WAITING;
            }
            return route == ARRIVED ? KEPT : TRAVELLING;
        }

        private int firstNeededKey() {
            return delivered < sent ? keys[placeOf(delivered)] : key;
        }
    }

    /** Everything that changes can change. */
    private static final class Situation {
        private int tick;
        /** Bit b of row a: the link between a and b is up; both know each other. */
        private final int[] links = new int[MOST_PEERS];
        private final int[] known = new int[MOST_PEERS];
        private final Session[] sessions = new Session[MOST_SESSIONS];

        private Situation() {
            for (int number = 0; number < MOST_SESSIONS; number++) {
                sessions[number] = new Session();
            }
        }

        private void copyFrom(Situation other) {
            tick = other.tick;
            System.arraycopy(other.links, 0, links, 0, MOST_PEERS);
            System.arraycopy(other.known, 0, known, 0, MOST_PEERS);
            for (int number = 0; number < MOST_SESSIONS; number++) {
                sessions[number].copyFrom(other.sessions[number]);
            }
        }

        private void beginWith(Plan plan) {
            tick = 0;
            for (int a = 0; a < MOST_PEERS; a++) {
                known[a] = plan.known[a];
                links[a] = 0;
                for (int b = 0; b < MOST_PEERS; b++) {
                    if (plan.delayBetween(a, b) != 0) {
                        links[a] |= 1 << b;
                    }
                }
            }
            for (int number = 0; number < MOST_SESSIONS; number++) {
                sessions[number].open = false;
            }
        }

        private boolean acquainted(int a, int b) {
            return (known[a] >> b & 1) != 0;
        }

        private void acquaint(int a, int b) {
            known[a] |= 1 << b;
            known[b] |= 1 << a;
        }

        private boolean linkIsUp(int a, int b) {
            return (links[a] >> b & 1) != 0;
        }

        private void turnLink(int a, int b) {
            links[a] ^= 1 << b;
            links[b] ^= 1 << a;
        }

        /** Returns the length of the shortest chain of acquaintances between two peers. */
        private int stepsBetween(int a, int b) {
            int reached = 1 << a;
            for (int steps = 1; steps < MOST_PEERS; steps++) {
                int wider = reached;
                for (int peer = 0; peer < MOST_PEERS; peer++) {
                    if ((reached >> peer & 1) != 0) {
                        wider |= known[peer];
                    }
                }
                reached = wider;
                if ((reached >> b & 1) != 0) {
                    return steps;
                }
            }
            return NONE;
        }

        private int findSession(int sender, int receiver) {
            for (int number = 0; number < MOST_SESSIONS; number++) {
                Session session = sessions[number];
                if (session.open && session.sender == sender && session.receiver == receiver) {
                    return number;
                }
            }
            return NONE;
        }

        private int freeSession() {
            for (int number = 0; number < MOST_SESSIONS; number++) {
                if (!sessions[number].open) {
                    return number;
                }
            }
            return NONE;
        }

        private int loadOf(int peer) {
            int load = 0;
            for (int number = 0; number < MOST_SESSIONS; number++) {
                if (sessions[number].leadsOver(peer)) {
                    load++;
                }
            }
            return load;
        }

        private boolean canRelay(int relay, int sender, int receiver) {
            return relay != sender && relay != receiver
                    && acquainted(relay, sender) && acquainted(relay, receiver)
                    && linkIsUp(relay, sender) && linkIsUp(relay, receiver);
        }

        private int scoreOf(Plan plan, int relay, int sender, int receiver) {
            return plan.score.worth(plan.delayBetween(sender, relay), plan.delayBetween(relay, receiver),
                    loadOf(relay), plan.capacities[relay], plan.zonesCrossed(relay, sender, receiver));
        }

        private int chooseRelay(Plan plan, int sender, int receiver) {
            int best = NONE;
            int bestScore = 0;
            for (int peer = 0; peer < plan.peers; peer++) {
                if (canRelay(peer, sender, receiver) && loadOf(peer) < plan.capacities[peer]) {
                    int score = scoreOf(plan, peer, sender, receiver);
                    if (best == NONE || score < bestScore) {
                        best = peer;
                        bestScore = score;
                    }
                }
            }
            return best;
        }

        /** Does a tick, each step for all sessions before the next step; returns how many messages were delivered. */
        private int passTick(Plan plan) {
            tick++;
            int delivered = 0;
            for (int number = 0; number < MOST_SESSIONS; number++) {
                if (sessions[number].open) {
                    delivered += sessions[number].takeArrivals(tick);
                }
            }
            for (int number = 0; number < MOST_SESSIONS; number++) {
                if (sessions[number].open && sessions[number].path != DIRECT) {
                    probeIfDue(plan, sessions[number]);
                }
            }
            for (int number = 0; number < MOST_SESSIONS; number++) {
                if (sessions[number].open && sessions[number].path == NONE) {
                    seekRelay(plan, sessions[number]);
                }
            }
            for (int number = 0; number < MOST_SESSIONS; number++) {
                if (sessions[number].open) {
                    sessions[number].dropEmptyOldPath();
                }
            }
            return delivered;
        }

        private void probeIfDue(Plan plan, Session session) {
            if (plan.period < 1 || (tick - session.opened) % plan.period != 0) {
                return;
            }
            if (!linkIsUp(session.sender, session.receiver)) {
                session.successes = 0;
                return;
            }
            session.successes++;
            if (session.successes >= plan.need) {
                upgrade(plan, session);
            }
        }

        private void upgrade(Plan plan, Session session) {
            session.successes = 0;
            if (session.path != NONE) {
                session.oldPath = session.path;
            }
            session.changePath(DIRECT);
            session.startWaiting(tick + plan.delayAlong(session));
        }

        private void seekRelay(Plan plan, Session session) {
            int relay = chooseRelay(plan, session.sender, session.receiver);
            if (relay != NONE) {
                session.changePath(relay);
                session.startWaiting(tick + plan.delayAlong(session));
            }
        }

        /** Leads all sessions away from a link that went down; returns how many messages left it. */
        private int leaveLink(Plan plan, int a, int b) {
            int moved = 0;
            for (int number = 0; number < MOST_SESSIONS; number++) {
                Session session = sessions[number];
                if (session.open) {
                    leavePaths(plan, session, a, b);
                    moved += session.moveMessages(a, b, tick + plan.delayAlong(session));
                }
            }
            return moved;
        }

        private void leavePaths(Plan plan, Session session, int a, int b) {
            if (session.routeUses(session.oldPath, a, b)) {
                session.oldPath = NONE;
            }
            if (session.routeUses(session.path, a, b)) {
                session.successes = 0;
                session.changePath(chooseRelay(plan, session.sender, session.receiver));
            }
        }
    }

    /** The situations before the latest changes, in rows that are used in turn. */
    private static final class History {
        private final Situation[] before = new Situation[MOST_CHANGES];
        private int next;
        private int count;

        private History() {
            for (int row = 0; row < MOST_CHANGES; row++) {
                before[row] = new Situation();
            }
        }

        private void keep(Situation situation) {
            before[next].copyFrom(situation);
            next = next + 1 < MOST_CHANGES ? next + 1 : 0;
            count = Math.min(count + 1, MOST_CHANGES);
        }

        private int takeBack(Situation situation) {
            if (count == 0) {
                return NONE;
            }
            next = next > 0 ? next - 1 : MOST_CHANGES - 1;
            count--;
            situation.copyFrom(before[next]);
            return count;
        }

        private void forget() {
            count = 0;
        }
    }
}
