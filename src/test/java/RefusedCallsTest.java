import java.util.ArrayList;
import java.util.List;

/**
 * "A method that throws an exception changes nothing": each call that is refused, made in a rich situation, compared
 * with a twin on which it was not made. No object is used for more than 512 calls.
 */
public final class RefusedCallsTest {
    /** A call on some overlay. */
    private interface Use {
        void on(PeerOverlay overlay);
    }

    /** A call with the exception that is due. */
    private record Refused(String name, Class<?> due, Use use) {
    }

    private static final Class<?> INDEX = IndexOutOfBoundsException.class;
    private static final Class<?> ARGUMENT = IllegalArgumentException.class;
    private static final Class<?> STATE = IllegalStateException.class;
    private static final int[] NO_PEERS = {-1, 4, 8, Integer.MIN_VALUE, Integer.MAX_VALUE};
    private static final int[] NO_SESSIONS = {-1, 3, 6, Integer.MIN_VALUE, Integer.MAX_VALUE};
    private static final List<Refused> CALLS = new ArrayList<>();

    private RefusedCallsTest() {
    }

    public static void main(String[] args) {
        arguments();
        peers();
        sessions();
        changes();
        for (Refused call : CALLS) {
            changesNothing(call);
        }
        whenFull();
        Check.finish();
    }

    /** Sessions 0 (direct, with an old path), 1 (waiting) and 2 (nothing sent), one snapshot, bytes in the buffer. */
    private static PeerOverlay rich() {
        PeerOverlay x = Check.overlay("peer 1 1; peer 1 1; peer 1 1; peer 2 2; link 0 1 9; link 0 2 20; link 2 1 30; link 0 3 40;"
                + "knows 0 1; knows 0 2; knows 1 2; knows 0 3; probe 3 1; keys 2;");
        Check.same("3: an error", Check.parse(x, "     ?"), 1);
        x.open(0, 1);
        x.send(0, 5);
        x.run(2);
        x.saveSnapshot(1);
        x.open(1, 2);
        x.send(1, 6);
        x.run(1);
        x.send(0, 7);
        x.run(9);
        x.open(2, 1);
        Check.feed(x, "keys 1;");
        return x;
    }

    private static void changesNothing(Refused call) {
        PeerOverlay asked = rich();
        Check.refused(call.name, call.due, () -> call.use.on(asked));
        Everything.same(call.name + " changes nothing", asked, rich());

        PeerOverlay undone = rich();
        PeerOverlay twin = rich();
        Check.refused(call.name, call.due, () -> call.use.on(undone));
        Check.same(call.name + " keeps the buffer", undone.append(1, 2, 3, 4, 5), twin.append(1, 2, 3, 4, 5));
        Check.same(call.name + " keeps its bytes", undone.parse(7), 0);

        PeerOverlay back = rich();
        Check.refused(call.name, call.due, () -> call.use.on(back));
        int[] ticks = {0, 0, 0, 2, 2, 2, 3, 3, 12};
        for (int left = 8; left >= 0; left--) {
            Check.same(call.name + " is no change", back.undo(), left);
            Check.same(call.name + " leaves the tick", back.tick(), ticks[left]);
        }
        Check.same(call.name + " leaves the end", back.undo(), -1);
        Check.badState(call.name + " fills no slot", () -> back.restoreSnapshot(0));
        Check.same(call.name + " empties no slot", back.restoreSnapshot(1), 2);
    }

    private static void add(String name, Class<?> due, Use use) {
        CALLS.add(new Refused(name, due, use));
    }

    private static void arguments() {
        for (int bad : new int[] {-1, 21, 601, Integer.MIN_VALUE, Integer.MAX_VALUE}) {
            add("3: parse " + bad, ARGUMENT, x -> x.parse(bad));
        }
        for (int bad : new int[] {-1, 0, 301, Integer.MIN_VALUE, Integer.MAX_VALUE}) {
            add("27: run " + bad, ARGUMENT, x -> x.run(bad));
        }
        for (int bad : new int[] {-1, 2, Integer.MIN_VALUE, Integer.MAX_VALUE}) {
            add("34: saveSnapshot " + bad, INDEX, x -> x.saveSnapshot(bad));
            add("35: restoreSnapshot " + bad, INDEX, x -> x.restoreSnapshot(bad));
        }
        add("35: restoreSnapshot of the empty slot", STATE, x -> x.restoreSnapshot(0));
        for (int bad : new int[] {-1, 4, Integer.MIN_VALUE, Integer.MAX_VALUE}) {
            add("19: messages in " + bad, ARGUMENT, x -> x.messages(0, bad));
        }
    }

    private static void peers() {
        for (int bad : NO_PEERS) {
            add("7: knows", INDEX, x -> x.knows(bad, bad));
            add("8: delay", INDEX, x -> x.delay(0, bad));
            add("9: introductionsNeeded", INDEX, x -> x.introductionsNeeded(bad, bad));
            add("10: introducer", INDEX, x -> x.introducer(bad, bad));
            add("11: load", INDEX, x -> x.load(bad));
            add("12: bestRelay", INDEX, x -> x.bestRelay(bad, bad));
            add("13: relayScore", INDEX, x -> x.relayScore(0, 0, bad));
            add("15: session", INDEX, x -> x.session(bad, bad));
            add("28: introduce", INDEX, x -> x.introduce(0, 0, bad));
            add("29: open", INDEX, x -> x.open(bad, bad));
            add("31: setLink", INDEX, x -> x.setLink(bad, bad, false));
        }
        add("9: introductionsNeeded of one", ARGUMENT, x -> x.introductionsNeeded(0, 0));
        add("10: introducer of one", ARGUMENT, x -> x.introducer(1, 1));
        add("12: bestRelay of one", ARGUMENT, x -> x.bestRelay(2, 2));
        add("13: relayScore of two", ARGUMENT, x -> x.relayScore(3, 1, 1));
        add("13: relayScore of one that can't", STATE, x -> x.relayScore(3, 0, 1));
        add("15: session of one", ARGUMENT, x -> x.session(3, 3));
    }

    private static void sessions() {
        for (int bad : NO_SESSIONS) {
            add("16: path", INDEX, x -> x.path(bad));
            add("17: oldPath", INDEX, x -> x.oldPath(bad));
            add("18: successes", INDEX, x -> x.successes(bad));
            add("19: messages", INDEX, x -> x.messages(bad, 9));
            add("20: lastValue", INDEX, x -> x.lastValue(bad));
            add("21: digest", INDEX, x -> x.digest(bad));
            add("22: key", INDEX, x -> x.key(bad));
            add("23: oldestKey", INDEX, x -> x.oldestKey(bad));
            add("24: keyStart", INDEX, x -> x.keyStart(bad));
            add("25: ticksToDeliver", INDEX, x -> x.ticksToDeliver(bad));
            add("26: ticksToDirect", INDEX, x -> x.ticksToDirect(bad));
            add("30: send", INDEX, x -> x.send(bad, 1));
            add("32: close", INDEX, x -> x.close(bad));
        }
        add("20: lastValue of none", STATE, x -> x.lastValue(2));
        add("20: lastValue of none, though one is kept", STATE, x -> x.lastValue(0));
    }

    private static void changes() {
        add("28: introduce by one of the two", ARGUMENT, x -> x.introduce(0, 0, 1));
        add("28: introduce one to itself", ARGUMENT, x -> x.introduce(0, 1, 1));
        add("28: introduce by a stranger", STATE, x -> x.introduce(3, 1, 2));
        add("28: introduce once more", STATE, x -> x.introduce(0, 1, 2));
        add("29: open to itself", ARGUMENT, x -> x.open(2, 2));
        add("29: open to a stranger", STATE, x -> x.open(3, 1));
        add("29: open once more", STATE, x -> x.open(0, 1));
        add("31: setLink of one", ARGUMENT, x -> x.setLink(1, 1, true));
        add("31: setLink without a link", STATE, x -> x.setLink(1, 3, false));
        add("31: setLink up without a link", STATE, x -> x.setLink(1, 3, true));
        add("31: setLink once more", STATE, x -> x.setLink(0, 3, true));
        add("32: close with a travelling message", STATE, x -> x.close(0));
        add("32: close with a waiting message", STATE, x -> x.close(1));
    }

    /** Six sessions, 24 messages that are not delivered, the last tick, a full buffer. */
    private static PeerOverlay full() {
        PeerOverlay x = Check.overlay("peer 1 1; peer 1 1; peer 1 1; link 0 1 9; knows 0 1; knows 0 2; knows 1 2; probe 20 9;");
        for (int times = 0; times < 33; times++) {
            x.run(300);
        }
        x.run(98);
        x.setLink(0, 1, false);
        for (int sender = 0; sender < 3; sender++) {
            for (int receiver = 0; receiver < 3; receiver++) {
                if (sender != receiver) {
                    x.open(sender, receiver);
                }
            }
        }
        for (int sent = 0; sent < 24; sent++) {
            x.send(5, sent);
        }
        x.run(1);
        for (int times = 0; times < 30; times++) {
            x.append(0x20202020, 0x20202020, 0x20202020, 0x20202020, 0x20202020);
        }
        return x;
    }

    private static void whenFull() {
        PeerOverlay due = full();
        PeerOverlay x = full();
        Check.same("2: a full buffer", x.append(-1, -1, -1, -1, -1), -1);
        Check.badState("27: the last tick is over", () -> x.run(1));
        Check.badArgument("27: 0 at the last tick", () -> x.run(0));
        Check.badArgument("27: 301 at the last tick", () -> x.run(301));
        Check.badState("30: a 25th message", () -> x.send(5, 1));
        Check.badState("29: six are open", () -> x.open(0, 1));
        Check.badArgument("29: six are open, both are the same", () -> x.open(0, 0));
        Check.outside("29: six are open, no such peer", () -> x.open(0, 3));
        Check.badState("32: 24 wait", () -> x.close(5));
        Check.badArgument("3: 601", () -> x.parse(601));
        Everything.same("nothing changes when all is full", x, due);
        PeerOverlay back = full();
        Check.badState("30: a 25th message", () -> back.send(5, 1));
        Check.badState("27: the last tick is over", () -> back.run(1));
        Check.same("33: the last run", back.undo(), 9);
        Check.same("6: tick", back.tick(), 9998);
        Check.same("33: a message", back.undo(), 8);
        Check.same("19: 23 are left", back.messages(5, 0), 23);
        Check.same("2: the buffer is still full", back.append(0, 0, 0, 0, 0), -1);
        Check.same("3: and has its bytes", back.parse(600), 0);
    }
}
