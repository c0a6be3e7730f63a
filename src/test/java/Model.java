import java.util.ArrayDeque;
import java.util.ArrayList;
import java.util.Arrays;
import java.util.Deque;
import java.util.HashMap;
import java.util.HashSet;
import java.util.List;
import java.util.Map;
import java.util.Set;
import java.util.TreeMap;

/**
 * The document once more, written for plainness with the Java library, and apart from the class itself:
 * random runs compare the two.
 */
public final class Model {
    /** The values that a score can use. */
    private record Inputs(int first, int second, int load, int capacity, int zones) {
    }

    private interface Formula {
        int value(Inputs inputs);
    }

    private record Token(String text, int at) {
        boolean number() {
            return text.matches("[0-9]{1,4}");
        }
    }

    private static final class ParseError extends Exception {
        private static final long serialVersionUID = 1L;
        final int code;
        final int position;

        ParseError(int code, int position) {
            this.code = code;
            this.position = position;
        }
    }

    private static final class Description {
        final List<int[]> peers = new ArrayList<>();
        final Map<Set<Integer>, Integer> links = new HashMap<>();
        final Set<Set<Integer>> knows = new HashSet<>();
        Formula score = in -> in.first + in.second + in.load * 10;
        int period = 3;
        int need = 2;
        int many = 10;
    }

    private static final class Parser {
        private final List<Token> tokens = new ArrayList<>();
        private final Set<String> singles = new HashSet<>();
        private final Description result = new Description();
        private int next = 0;

        Parser(String text) {
            for (int at = 0; at < text.length();) {
                int end = at + 1;
                String class_ = kind(text.charAt(at));
                while (!class_.equals("sign") && end < text.length() && kind(text.charAt(end)).equals(class_)) {
                    end++;
                }
                if (!class_.equals("blank")) {
                    tokens.add(new Token(text.substring(at, end), at));
                }
                at = end;
            }
            tokens.add(new Token("", text.length()));
        }

        private static String kind(char sign) {
            if (sign == ' ' || sign == '\n') {
                return "blank";
            }
            return sign >= 'a' && sign <= 'z' ? "word" : sign >= '0' && sign <= '9' ? "number" : "sign";
        }

        private Token look() {
            return tokens.get(next);
        }

        private ParseError error(int code) {
            return new ParseError(code, look().at);
        }

        Description parse() throws ParseError {
            while (!look().text.isEmpty()) {
                statement();
                take(";");
            }
            return result;
        }

        private void take(String text) throws ParseError {
            if (!look().text.equals(text)) {
                throw error(1);
            }
            next++;
        }

        private int number(int low, int high) throws ParseError {
            if (!look().number()) {
                throw error(1);
            }
            int value = Integer.parseInt(look().text);
            if (value < low || value > high) {
                throw error(3);
            }
            next++;
            return value;
        }

        private Set<Integer> pair() throws ParseError {
            int a = number(0, result.peers.size() - 1);
            int b = number(0, result.peers.size() - 1);
            if (a == b) {
                next--;
                throw error(5);
            }
            return Set.of(a, b);
        }

        private void statement() throws ParseError {
            String word = look().text;
            if (!Set.of("peer", "link", "knows", "score", "probe", "keys").contains(word)) {
                throw error(1);
            }
            if (Set.of("score", "probe", "keys").contains(word) && !singles.add(word)) {
                throw error(2);
            }
            if (word.equals("peer") && result.peers.size() == 8) {
                throw error(4);
            }
            next++;
            switch (word) {
                case "peer" -> result.peers.add(new int[] {number(0, 9), number(0, 9)});
                case "link" -> result.links.put(pair(), number(1, 99));
                case "knows" -> result.knows.add(pair());
                case "score" -> result.score = sum(0);
                case "probe" -> {
                    result.period = number(1, 20);
                    result.need = number(1, 9);
                }
                default -> result.many = number(1, 99);
            }
        }

        private Formula sum(int open) throws ParseError {
            Formula left = term(open);
            while (look().text.equals("+") || look().text.equals("-")) {
                Formula a = left;
                boolean plus = tokens.get(next++).text.equals("+");
                Formula b = term(open);
                left = in -> plus ? a.value(in) + b.value(in) : a.value(in) - b.value(in);
            }
            return left;
        }

        private Formula term(int open) throws ParseError {
            Formula left = factor(open);
            while (look().text.equals("*") || look().text.equals("/")) {
                Formula a = left;
                boolean times = tokens.get(next++).text.equals("*");
                Formula b = factor(open);
                left = in -> times ? a.value(in) * b.value(in) : b.value(in) == 0 ? 0 : a.value(in) / b.value(in);
            }
            return left;
        }

        private Formula factor(int open) throws ParseError {
            if (look().number()) {
                int constant = number(0, 9999);
                return in -> constant;
            }
            if (look().text.equals("(")) {
                if (open == 5) {
                    throw error(4);
                }
                next++;
                Formula inner = sum(open + 1);
                take(")");
                return inner;
            }
            Formula input = switch (look().text) {
                case "first" -> in -> in.first;
                case "second" -> in -> in.second;
                case "load" -> in -> in.load;
                case "capacity" -> in -> in.capacity;
                case "zones" -> in -> in.zones;
                default -> throw error(1);
            };
            next++;
            return input;
        }
    }

    private static final class Message {
        final int value;
        final int key;
        String state;
        int route;
        int due;

        Message(int value, int key) {
            this.value = value;
            this.key = key;
        }

        Message(Message other) {
            this(other.value, other.key);
            state = other.state;
            route = other.route;
            due = other.due;
        }
    }

    private static final class Talk {
        final int from;
        final int to;
        final int since;
        int path = -1;
        int old = -1;
        int good = 0;
        int key = 0;
        /** All messages ever sent. */
        final List<Message> all = new ArrayList<>();

        Talk(int from, int to, int since) {
            this.from = from;
            this.to = to;
            this.since = since;
        }

        Talk(Talk other) {
            this(other.from, other.to, other.since);
            path = other.path;
            old = other.old;
            good = other.good;
            key = other.key;
            for (Message message : other.all) {
                all.add(new Message(message));
            }
        }

        int count(String state) {
            return (int) all.stream().filter(m -> m.state.equals(state)).count();
        }

        int undelivered() {
            return all.size() - count("delivered");
        }

        int withPresentKey() {
            return (int) all.stream().filter(m -> m.key == key).count();
        }

        boolean uses(int route, Set<Integer> link) {
            return links(route).contains(link);
        }

        Set<Set<Integer>> links(int route) {
            if (route == -1) {
                return Set.of();
            }
            return route == 100 ? Set.of(Set.of(from, to)) : Set.of(Set.of(from, route), Set.of(route, to));
        }
    }

    /** What changes can change. */
    private static final class World {
        int tick = 0;
        final Set<Set<Integer>> up = new HashSet<>();
        final Set<Set<Integer>> knows = new HashSet<>();
        final TreeMap<Integer, Talk> talks = new TreeMap<>();

        World() {
        }

        World(World other) {
            tick = other.tick;
            up.addAll(other.up);
            knows.addAll(other.knows);
            other.talks.forEach((number, talk) -> talks.put(number, new Talk(talk)));
        }
    }

    private final StringBuilder buffer = new StringBuilder();
    private int position = -1;
    private Description text = new Description();
    private World world = new World();
    private final Deque<World> earlier = new ArrayDeque<>();
    private final World[] slots = new World[2];

    public int append(int a, int b, int c, int d, int e) {
        if (buffer.length() + 20 > 600) {
            return -1;
        }
        for (int four : new int[] {a, b, c, d, e}) {
            buffer.append((char) (four >>> 24)).append((char) (four >>> 16 & 255))
                    .append((char) (four >>> 8 & 255)).append((char) (four & 255));
        }
        return buffer.length();
    }

    public int parse(int length) {
        refuse(length < 0 || length > buffer.length());
        String source = buffer.substring(0, length);
        buffer.setLength(0);
        try {
            text = new Parser(source).parse();
        } catch (ParseError error) {
            position = error.position;
            return error.code;
        }
        position = -1;
        world = new World();
        world.up.addAll(text.links.keySet());
        world.knows.addAll(text.knows);
        earlier.clear();
        slots[0] = null;
        slots[1] = null;
        return 0;
    }

    public int errorPosition() {
        return position;
    }

    public int peerCount() {
        return text.peers.size();
    }

    public int tick() {
        return world.tick;
    }

    private static void refuse(boolean bad) {
        if (bad) {
            throw new IllegalArgumentException();
        }
    }

    private static void forbid(boolean bad) {
        if (bad) {
            throw new IllegalStateException();
        }
    }

    private void peers(int... numbers) {
        for (int number : numbers) {
            if (number < 0 || number >= peerCount()) {
                throw new IndexOutOfBoundsException();
            }
        }
    }

    private void different(int... numbers) {
        peers(numbers);
        for (int i = 0; i < numbers.length; i++) {
            for (int j = 0; j < i; j++) {
                refuse(numbers[i] == numbers[j]);
            }
        }
    }

    private Talk talk(int number) {
        Talk found = world.talks.get(number);
        if (found == null) {
            throw new IndexOutOfBoundsException();
        }
        return found;
    }

    public boolean knows(int a, int b) {
        peers(a, b);
        return know(world, a, b);
    }

    private static boolean know(World w, int a, int b) {
        return a != b && w.knows.contains(Set.of(a, b));
    }

    public int delay(int a, int b) {
        peers(a, b);
        return a != b && world.up.contains(Set.of(a, b)) ? text.links.get(Set.of(a, b)) : -1;
    }

    public int introductionsNeeded(int a, int b) {
        different(a, b);
        if (knows(a, b)) {
            return 0;
        }
        // The chain of acquaintances, by repeated relaxing; every introduction shortens it by one.
        int[] far = new int[peerCount()];
        Arrays.fill(far, 99);
        far[a] = 0;
        for (int round = 0; round < 8; round++) {
            for (Set<Integer> pair : world.knows) {
                List<Integer> two = List.copyOf(pair);
                far[two.get(0)] = Math.min(far[two.get(0)], far[two.get(1)] + 1);
                far[two.get(1)] = Math.min(far[two.get(1)], far[two.get(0)] + 1);
            }
        }
        return far[b] >= 99 ? -1 : far[b] - 1;
    }

    public int introducer(int a, int b) {
        different(a, b);
        for (int peer = 0; peer < peerCount(); peer++) {
            if (knows(peer, a) && knows(peer, b)) {
                return peer;
            }
        }
        return -1;
    }

    public int load(int peer) {
        peers(peer);
        return loadIn(world, peer);
    }

    private static int loadIn(World w, int peer) {
        return (int) w.talks.values().stream().filter(t -> t.path == peer || t.old == peer).count();
    }

    private boolean able(World w, int relay, int from, int to) {
        return relay != from && relay != to && know(w, relay, from) && know(w, relay, to)
                && w.up.contains(Set.of(relay, from)) && w.up.contains(Set.of(relay, to));
    }

    private int score(World w, int relay, int from, int to) {
        int zone = text.peers.get(relay)[1];
        int zones = 0;
        for (int end : new int[] {from, to}) {
            if (text.peers.get(end)[1] != zone) {
                zones++;
            }
        }
        return text.score.value(new Inputs(text.links.get(Set.of(from, relay)), text.links.get(Set.of(relay, to)),
                loadIn(w, relay), text.peers.get(relay)[0], zones));
    }

    private int best(World w, int from, int to) {
        int found = -1;
        for (int relay = peerCount() - 1; relay >= 0; relay--) {
            if (able(w, relay, from, to) && loadIn(w, relay) < text.peers.get(relay)[0]
                    && (found < 0 || score(w, relay, from, to) <= score(w, found, from, to))) {
                found = relay;
            }
        }
        return found;
    }

    public int bestRelay(int sender, int receiver) {
        different(sender, receiver);
        return best(world, sender, receiver);
    }

    public int relayScore(int relay, int sender, int receiver) {
        different(relay, sender, receiver);
        forbid(!able(world, relay, sender, receiver));
        return score(world, relay, sender, receiver);
    }

    public int sessions() {
        return world.talks.keySet().stream().mapToInt(number -> 1 << number).sum();
    }

    public int session(int sender, int receiver) {
        different(sender, receiver);
        for (Map.Entry<Integer, Talk> entry : world.talks.entrySet()) {
            if (entry.getValue().from == sender && entry.getValue().to == receiver) {
                return entry.getKey();
            }
        }
        return -1;
    }

    public int path(int session) {
        return talk(session).path;
    }

    public int oldPath(int session) {
        return talk(session).old;
    }

    public int successes(int session) {
        return talk(session).good;
    }

    public int messages(int session, int state) {
        Talk asked = talk(session);
        refuse(state < 0 || state > 3);
        return asked.count(List.of("waiting", "travelling", "kept", "delivered").get(state));
    }

    private static List<Message> done(Talk talk) {
        return talk.all.subList(0, talk.count("delivered"));
    }

    public int lastValue(int session) {
        List<Message> done = done(talk(session));
        forbid(done.isEmpty());
        return done.get(done.size() - 1).value;
    }

    public int digest(int session) {
        int digest = 0;
        for (Message message : done(talk(session))) {
            digest = digest * 31 + message.value;
        }
        return digest;
    }

    public int key(int session) {
        return talk(session).key;
    }

    public int oldestKey(int session) {
        Talk asked = talk(session);
        return asked.undelivered() == 0 ? asked.key : asked.all.get(asked.count("delivered")).key;
    }

    public int keyStart(int session) {
        Talk asked = talk(session);
        for (int number = 0; number < asked.all.size(); number++) {
            if (asked.all.get(number).key == asked.key) {
                return number;
            }
        }
        return asked.all.size();
    }

    public int ticksToDeliver(int session) {
        talk(session);
        World future = new World(world);
        for (int ticks = 0; ticks <= 300; ticks++) {
            if (future.talks.get(session).undelivered() == 0) {
                return ticks;
            }
            pass(future);
        }
        return -1;
    }

    public int ticksToDirect(int session) {
        talk(session);
        World future = new World(world);
        for (int ticks = 0; ticks <= 300; ticks++) {
            if (future.talks.get(session).path == 100) {
                return ticks;
            }
            pass(future);
        }
        return -1;
    }

    private void change() {
        earlier.push(new World(world));
        if (earlier.size() > 10) {
            earlier.removeLast();
        }
    }

    private void begin(World w, Talk talk, Message message) {
        message.route = talk.path;
        message.state = talk.path == -1 ? "waiting" : "travelling";
        message.due = w.tick;
        for (Set<Integer> link : talk.links(talk.path)) {
            message.due += text.links.get(link);
        }
    }

    private static void lead(Talk talk, int path) {
        if (path != talk.path && talk.withPresentKey() > 0) {
            talk.key++;
        }
        talk.path = path;
    }

    private void wake(World w, Talk talk) {
        talk.all.stream().filter(m -> m.state.equals("waiting")).forEach(m -> begin(w, talk, m));
    }

    private int pass(World w) {
        w.tick++;
        int delivered = 0;
        for (Talk talk : w.talks.values()) {
            for (Message message : talk.all) {
                if (message.state.equals("travelling") && message.due == w.tick) {
                    message.state = "kept";
                }
            }
            for (Message message : talk.all) {
                if (message.state.equals("kept")) {
                    message.state = "delivered";
                    delivered++;
                } else if (!message.state.equals("delivered")) {
                    break;
                }
            }
        }
        for (Talk talk : w.talks.values()) {
            if (talk.path != 100 && (w.tick - talk.since) % text.period == 0) {
                talk.good = w.up.contains(Set.of(talk.from, talk.to)) ? talk.good + 1 : 0;
                if (talk.good == text.need) {
                    talk.good = 0;
                    talk.old = talk.path == -1 ? talk.old : talk.path;
                    lead(talk, 100);
                    wake(w, talk);
                }
            }
        }
        for (Talk talk : w.talks.values()) {
            if (talk.path == -1) {
                lead(talk, best(w, talk.from, talk.to));
                wake(w, talk);
            }
        }
        for (Talk talk : w.talks.values()) {
            if (talk.all.stream().noneMatch(m -> m.state.equals("travelling") && m.route == talk.old)) {
                talk.old = -1;
            }
        }
        return delivered;
    }

    public int run(int ticks) {
        refuse(ticks < 1 || ticks > 300);
        forbid(world.tick + ticks > 9999);
        change();
        int delivered = 0;
        for (int done = 0; done < ticks; done++) {
            delivered += pass(world);
        }
        return delivered;
    }

    public int introduce(int peer, int a, int b) {
        different(peer, a, b);
        forbid(!knows(peer, a) || !knows(peer, b) || knows(a, b));
        change();
        world.knows.add(Set.of(a, b));
        return (int) world.knows.stream().filter(pair -> pair.contains(a)).count();
    }

    public int open(int sender, int receiver) {
        different(sender, receiver);
        forbid(!knows(sender, receiver) || session(sender, receiver) != -1 || world.talks.size() == 6);
        change();
        int number = 0;
        while (world.talks.containsKey(number)) {
            number++;
        }
        Talk talk = new Talk(sender, receiver, world.tick);
        talk.path = best(world, sender, receiver);
        world.talks.put(number, talk);
        return number;
    }

    public int send(int session, int value) {
        talk(session);
        forbid(talk(session).undelivered() == 24);
        change();
        Talk talk = talk(session);
        if (talk.withPresentKey() == text.many) {
            talk.key++;
        }
        Message message = new Message(value, talk.key);
        begin(world, talk, message);
        talk.all.add(message);
        return talk.all.size() - 1;
    }

    public int setLink(int a, int b, boolean up) {
        different(a, b);
        Set<Integer> link = Set.of(a, b);
        forbid(!text.links.containsKey(link) || world.up.contains(link) == up);
        change();
        if (up) {
            world.up.add(link);
            return 0;
        }
        world.up.remove(link);
        int moved = 0;
        for (Talk talk : world.talks.values()) {
            if (talk.uses(talk.old, link)) {
                talk.old = -1;
            }
            if (talk.uses(talk.path, link)) {
                talk.good = 0;
                lead(talk, best(world, talk.from, talk.to));
            }
            for (Message message : talk.all) {
                if (message.state.equals("travelling") && talk.uses(message.route, link)) {
                    begin(world, talk, message);
                    moved++;
                }
            }
        }
        return moved;
    }

    public int close(int session) {
        forbid(talk(session).undelivered() > 0);
        change();
        return world.talks.remove(session).all.size();
    }

    public int undo() {
        if (earlier.isEmpty()) {
            return -1;
        }
        world = earlier.pop();
        return earlier.size();
    }

    private static void slot(int slot) {
        if (slot != 0 && slot != 1) {
            throw new IndexOutOfBoundsException();
        }
    }

    public boolean saveSnapshot(int slot) {
        slot(slot);
        boolean before = slots[slot] != null;
        slots[slot] = new World(world);
        return before;
    }

    public int restoreSnapshot(int slot) {
        slot(slot);
        forbid(slots[slot] == null);
        world = new World(slots[slot]);
        earlier.clear();
        return world.tick;
    }
}
