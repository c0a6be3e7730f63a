/** Rows inside the object are used again; nothing of what they held before may show (promises 3, 29, 33 to 35). */
public final class ReuseTest {
    /** Peer 0 is the relay here, so that no number of a peer is special. */
    private static final String RELAY_ZERO = "peer 2 1; peer 1 1; peer 1 1; link 1 2 9; link 1 0 3; link 0 2 4;"
            + "knows 1 2; knows 0 1; knows 0 2; probe 5 2; keys 2;";

    private ReuseTest() {
    }

    public static void main(String[] args) {
        manyParses();
        parseAfterErrors();
        relayZero();
        sessionNumbers();
        undoneSessions();
        restoredSessions();
        Check.finish();
    }

    private static void manyParses() {
        PeerOverlay x = new PeerOverlay();
        String full = "peer 3 1; peer 4 2; peer 5 3; link 0 1 1; link 0 2 2; link 1 2 3; knows 0 1; knows 0 2; knows 1 2;";
        for (int times = 0; times < 4; times++) {
            Check.same("3: full", Check.parse(x, full + "score 1 + 2 * (3 - 4); probe 7 7; keys 7;"), 0);
            Check.same("13: its score", x.relayScore(2, 0, 1), -1);
            Check.same("3: plain", Check.parse(x, full), 0);
            Check.same("13: the score is as without a statement", x.relayScore(2, 0, 1), 5);
            x.open(0, 1);
            Check.same("26: so is the probe", x.ticksToDirect(0), 6);
            Check.same("3: without links", Check.parse(x, "peer 1 1; peer 1 1; peer 1 1; peer 1 1; score 5;"), 0);
            Check.same("8: no link", x.delay(0, 1), -1);
            Check.badState("31: none to set", () -> x.setLink(0, 2, false));
            Check.no("7: nobody knows", x.knows(0, 1) || x.knows(1, 2) || x.knows(2, 0));
            Check.same("14: no session", x.sessions(), 0);
            Check.same("3: empty", Check.parse(x, "\n"), 0);
            Check.same("5: no peers", x.peerCount(), 0);
        }
    }

    private static void parseAfterErrors() {
        PeerOverlay x = Check.overlay(RELAY_ZERO);
        Check.same("3: an error late in the text", Check.parse(x, RELAY_ZERO + "score 7; peer 1"), 1);
        Check.same("3: a small text", Check.parse(x, "peer 1 1; peer 1 1; peer 1 1; link 0 1 1; link 1 2 1;"), 0);
        Check.same("5: its peers", x.peerCount(), 3);
        Check.no("7: nothing of the faulty text", x.knows(0, 1));
        Check.same("8: no link of it", x.delay(0, 2), -1);
        Check.same("3: a small text again", Check.parse(x, "keys 1; probe 1 1; score 1;"), 0);
        Check.same("3: each can occur in every text", Check.parse(x, "keys 1; probe 1 1; score 1;"), 0);
    }

    private static void relayZero() {
        PeerOverlay x = Check.overlay(RELAY_ZERO);
        x.open(1, 2);
        Check.same("16: the relay", x.path(0), 0);
        x.send(0, 5);
        Check.same("27: over it", x.run(7), 1);
        x.run(2);
        x.send(0, 6);
        x.run(1);
        Check.same("17: the old path", x.oldPath(0), 0);
        Check.same("11: its load", x.load(0), 1);
        Check.same("31: its message", x.setLink(0, 2, false), 1);
        Check.same("17: none", x.oldPath(0), -1);
    }

    private static void sessionNumbers() {
        PeerOverlay x = Check.overlay(RELAY_ZERO);
        x.open(1, 2);
        for (int times = 0; times < 5; times++) {
            x.send(0, 100 + times);
        }
        x.run(8);
        Check.same("22: its key", x.key(0), 2);
        Check.same("18: its successes", x.successes(0), 1);
        Check.same("32: closed", x.close(0), 5);
        Check.same("29: the number again", x.open(2, 1), 0);
        Check.same("15: for others", x.session(2, 1), 0);
        Check.same("15: not for these", x.session(1, 2), -1);
        Check.same("18: successes", x.successes(0), 0);
        Check.same("17: oldPath", x.oldPath(0), -1);
        Check.same("19: delivered", x.messages(0, 3), 0);
        Check.badState("20: lastValue", () -> x.lastValue(0));
        Check.same("21: digest", x.digest(0), 0);
        Check.same("22: key", x.key(0), 0);
        Check.same("23: oldestKey", x.oldestKey(0), 0);
        Check.same("24: keyStart", x.keyStart(0), 0);
        Check.same("25: ticksToDeliver", x.ticksToDeliver(0), 0);
        Check.same("26: from its own opening", x.ticksToDirect(0), 10);
        Check.same("30: the first number", x.send(0, 1), 0);
        x.send(0, 1);
        Check.same("22: two with the key", x.key(0), 0);
    }

    /** A session with something in every row. */
    private static PeerOverlay busy() {
        PeerOverlay x = Check.overlay(RELAY_ZERO);
        x.run(3);
        x.open(1, 2);
        for (int value = 1; value <= 3; value++) {
            x.send(0, value);
        }
        x.run(8);
        x.send(0, 4);
        x.send(0, 5);
        return x;
    }

    private static void expectBusy(String after, PeerOverlay x) {
        Check.same(after + ": tick", x.tick(), 11);
        Check.same(after + ": session", x.session(1, 2), 0);
        Check.same(after + ": path", x.path(0), 0);
        Check.same(after + ": oldPath", x.oldPath(0), -1);
        Check.same(after + ": successes", x.successes(0), 1);
        Check.same(after + ": travelling", x.messages(0, 1), 2);
        Check.same(after + ": delivered", x.messages(0, 3), 3);
        Check.same(after + ": lastValue", x.lastValue(0), 3);
        Check.same(after + ": digest", x.digest(0), (31 + 2) * 31 + 3);
        Check.same(after + ": key", x.key(0), 2);
        Check.same(after + ": oldestKey", x.oldestKey(0), 1);
        Check.same(after + ": keyStart", x.keyStart(0), 4);
        Check.same(after + ": ticksToDeliver", x.ticksToDeliver(0), 7);
        Check.same(after + ": ticksToDirect", x.ticksToDirect(0), 2);
    }

    private static void spoil(PeerOverlay x) {
        x.run(20);
        x.close(0);
        x.open(2, 1);
        for (int value = 77; value < 82; value++) {
            x.send(0, value);
        }
        x.setLink(1, 0, false);
    }

    private static void undoneSessions() {
        PeerOverlay x = busy();
        expectBusy("at first", x);
        spoil(x);
        for (int left = 9; left >= 1; left--) {
            Check.same("33: left", x.undo(), left);
        }
        expectBusy("33", x);
        x.run(7);
        Check.same("33: the values", x.digest(0), (((31 + 2) * 31 + 3) * 31 + 4) * 31 + 5);
        Check.same("33: a probe on the way", x.path(0), 100);
    }

    private static void restoredSessions() {
        PeerOverlay x = busy();
        x.saveSnapshot(1);
        for (int times = 0; times < 2; times++) {
            spoil(x);
            Check.same("35: the tick", x.restoreSnapshot(1), 11);
            expectBusy("35", x);
            x.run(7);
            Check.same("35: the values", x.digest(0), (((31 + 2) * 31 + 3) * 31 + 4) * 31 + 5);
        }
    }
}
