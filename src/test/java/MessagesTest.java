/** Promises 19 to 24 and 30: messages, lastValue, digest, key, oldestKey, keyStart, send. */
public final class MessagesTest {
    /** The relay 2 takes 20 + 10, the direct link 5; a direct path after the second tick. */
    private static final String SLOW_RELAY = "peer 1 1; peer 1 1; peer 1 1; link 0 1 5; link 0 2 20; link 2 1 10;"
            + "knows 0 1; knows 0 2; knows 1 2; probe 2 1; keys 3;";

    private MessagesTest() {
    }

    public static void main(String[] args) {
        states();
        order();
        digestOverflows();
        mostUndelivered();
        keysByCount();
        keysByPath();
        keysFromAndToNone();
        waiting();
        Check.finish();
    }

    private static void states() {
        PeerOverlay x = Check.overlay(SLOW_RELAY);
        x.open(0, 1);
        for (int state = 0; state <= 3; state++) {
            Check.same("19: none in " + state, x.messages(0, state), 0);
        }
        Check.badArgument("19: state -1", () -> x.messages(0, -1));
        Check.badArgument("19: state 4", () -> x.messages(0, 4));
        Check.badArgument("19: the largest state", () -> x.messages(0, Integer.MAX_VALUE));
        Check.badArgument("19: the smallest state", () -> x.messages(0, Integer.MIN_VALUE));
        Check.same("30: the first number", x.send(0, -5), 0);
        Check.same("30: the second number", x.send(0, 6), 1);
        Check.same("19: travelling", x.messages(0, 1), 2);
        Check.badState("20: nothing delivered", () -> x.lastValue(0));
        Check.same("21: at first", x.digest(0), 0);
        Check.same("27: not yet", x.run(29), 0);
        Check.same("27: both", x.run(1), 2);
        Check.same("19: delivered", x.messages(0, 3), 2);
        Check.same("19: none travels", x.messages(0, 1), 0);
        Check.same("20: the last", x.lastValue(0), 6);
        Check.same("21: digest", x.digest(0), -5 * 31 + 6);
    }

    private static void order() {
        PeerOverlay x = Check.overlay(SLOW_RELAY);
        x.open(0, 1);
        x.send(0, 1);
        x.run(2);
        x.send(0, 2);
        x.send(0, 3);
        x.run(1);
        x.send(0, 4);
        Check.same("19: kept after the others", x.run(4), 0);
        Check.same("19: two are kept", x.messages(0, 2), 2);
        x.run(1);
        Check.same("19: three are kept", x.messages(0, 2), 3);
        Check.same("19: one travels", x.messages(0, 1), 1);
        Check.badState("20: none was delivered", () -> x.lastValue(0));
        Check.same("27: not before its time", x.run(21), 0);
        Check.same("27: all at once", x.run(1), 4);
        Check.same("20: the last by number", x.lastValue(0), 4);
        Check.same("21: in order", x.digest(0), ((1 * 31 + 2) * 31 + 3) * 31 + 4);
    }

    private static void digestOverflows() {
        PeerOverlay x = Check.overlay(SLOW_RELAY);
        x.open(0, 1);
        int due = 0;
        for (int value : new int[] {Integer.MAX_VALUE, Integer.MIN_VALUE, -1, 0, 77, Integer.MAX_VALUE}) {
            x.send(0, value);
            due = 31 * due + value;
        }
        x.run(30);
        Check.same("21: overflow", x.digest(0), due);
        Check.same("20: any number", x.lastValue(0), Integer.MAX_VALUE);
    }

    private static void mostUndelivered() {
        PeerOverlay x = Check.overlay(SLOW_RELAY + "peer 1 1; knows 0 3;");
        x.open(0, 1);
        x.open(0, 3);
        for (int number = 0; number < 24; number++) {
            Check.same("30: number " + number, x.send(0, number), number);
        }
        Check.badState("30: a 25th", () -> x.send(0, 0));
        Check.same("30: another session is free", x.send(1, 0), 0);
        x.run(2);
        Check.badState("30: still", () -> x.send(0, 0));
        x.run(28);
        Check.same("19: all", x.messages(0, 3), 24);
        for (int number = 24; number < 48; number++) {
            Check.same("30: number " + number, x.send(0, number), number);
        }
        Check.badState("30: again", () -> x.send(0, 0));
        Check.same("27: the rest", x.run(5), 24);
        int due = 0;
        for (int number = 0; number < 48; number++) {
            due = 31 * due + number;
        }
        Check.same("21: all values", x.digest(0), due);
        Check.same("19: all 48", x.messages(0, 3), 48);
    }

    private static void keysByCount() {
        PeerOverlay x = Check.overlay("peer 1 1; peer 1 1; knows 0 1; keys 3;");
        x.open(0, 1);
        Check.same("22: at first", x.key(0), 0);
        Check.same("23: the present key", x.oldestKey(0), 0);
        Check.same("24: the next message", x.keyStart(0), 0);
        for (int number = 0; number < 10; number++) {
            x.send(0, 0);
            Check.same("22: after message " + number, x.key(0), number / 3);
            Check.same("24: after message " + number, x.keyStart(0), number / 3 * 3);
            Check.same("23: after message " + number, x.oldestKey(0), 0);
        }
    }

    private static void keysByPath() {
        PeerOverlay x = Check.overlay(SLOW_RELAY);
        x.open(0, 1);
        x.run(2);
        Check.same("16: direct", x.path(0), 100);
        Check.same("22: nothing was sent with it", x.key(0), 0);
        x.send(0, 1);
        x.setLink(0, 1, false);
        Check.same("22: another path", x.key(0), 1);
        Check.same("24: the next message", x.keyStart(0), 1);
        Check.same("23: the first one's, though it travels again", x.oldestKey(0), 0);
        x.setLink(0, 1, true);
        x.run(2);
        Check.same("16: direct again", x.path(0), 100);
        Check.same("22: nothing was sent with this key", x.key(0), 1);
        x.send(0, 2);
        x.send(0, 3);
        x.send(0, 4);
        Check.same("24: the first with the key", x.keyStart(0), 1);
        x.send(0, 5);
        Check.same("22: three with one key", x.key(0), 2);
        Check.same("24: a new start", x.keyStart(0), 4);
        x.run(28);
        Check.same("23: all delivered", x.oldestKey(0), 2);
        Check.same("19: all delivered", x.messages(0, 3), 5);
        x.setLink(0, 2, false);
        Check.same("22: the path stays", x.key(0), 2);
    }

    private static void keysFromAndToNone() {
        PeerOverlay x = Check.overlay(SLOW_RELAY + "knows 0 2;");
        x.open(0, 1);
        x.send(0, 1);
        x.setLink(0, 1, false);
        Check.same("22: the direct link is not used", x.key(0), 0);
        x.setLink(0, 2, false);
        Check.same("16: to none", x.path(0), -1);
        Check.same("22: to none", x.key(0), 1);
        x.send(0, 2);
        x.setLink(0, 2, true);
        x.run(1);
        Check.same("16: from none", x.path(0), 2);
        Check.same("22: from none", x.key(0), 2);
        Check.same("23: the first message's key", x.oldestKey(0), 0);
        x.setLink(1, 2, false);
        Check.same("22: nothing was sent with it", x.key(0), 2);
        Check.same("24: the next", x.keyStart(0), 2);
    }

    private static void waiting() {
        PeerOverlay x = Check.overlay("peer 1 1; peer 1 1; peer 1 1; link 0 1 5; link 0 2 1; link 2 1 1;"
                + "knows 0 1; knows 0 2; probe 4 1;");
        x.open(0, 1);
        x.send(0, 1);
        x.send(0, 2);
        Check.same("19: both wait", x.messages(0, 0), 2);
        Check.same("27: none", x.run(3), 0);
        x.introduce(0, 1, 2);
        Check.same("16: a relay is sought in a tick", x.path(0), -1);
        x.run(1);
        Check.same("16: the probe comes first", x.path(0), 100);
        Check.same("17: there was no relay", x.oldPath(0), -1);
        Check.same("19: both travel", x.messages(0, 1), 2);
        Check.same("27: not yet", x.run(4), 0);
        Check.same("27: from that tick on", x.run(1), 2);
        x.setLink(0, 1, false);
        Check.same("16: now the relay", x.path(0), 2);
        x.setLink(0, 2, false);
        x.send(0, 3);
        x.setLink(0, 2, true);
        x.run(1);
        Check.same("16: a tick finds the relay", x.path(0), 2);
        Check.same("27: in that tick it began", x.run(1), 0);
        Check.same("27: after 1 + 1", x.run(1), 1);
    }
}
