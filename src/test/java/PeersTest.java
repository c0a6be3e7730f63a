/** Promises 7 to 13: knows, delay, introductionsNeeded, introducer, load, bestRelay, relayScore. */
public final class PeersTest {
    private static final String CHAIN = "peer 1 1;".repeat(8)
            + "knows 0 1; knows 1 2; knows 2 3; knows 3 4; knows 4 5; knows 5 6;";
    /** Peers 2, 3 and 4 can relay between 0 and 1. */
    private static final String RELAYS = "peer 9 1; peer 9 2; peer 2 1; peer 1 2; peer 9 3;"
            + "link 0 2 5; link 2 1 6; link 0 3 7; link 3 1 4; link 4 0 20; link 4 1 30;"
            + "knows 0 2; knows 1 2; knows 0 3; knows 1 3; knows 0 4; knows 1 4; knows 0 1;";

    private PeersTest() {
    }

    public static void main(String[] args) {
        knowing();
        delays();
        introductions();
        introducers();
        loads();
        bestRelays();
        whoCanRelay();
        scores();
        scoreArithmetic();
        wrongPeers();
        Check.finish();
    }

    private static void knowing() {
        PeerOverlay x = Check.overlay("peer 1 1; peer 1 1; peer 1 1; knows 2 0; knows 2 0;");
        Check.yes("7: knows(0, 2)", x.knows(0, 2));
        Check.yes("7: knows(2, 0)", x.knows(2, 0));
        Check.no("7: knows(0, 1)", x.knows(0, 1));
        Check.no("7: knows(0, 0)", x.knows(0, 0));
    }

    private static void delays() {
        PeerOverlay x = Check.overlay("peer 1 1; peer 1 1; peer 1 1; link 0 1 5; link 1 0 99; link 1 2 1;");
        Check.same("8: the later link", x.delay(0, 1), 99);
        Check.same("8: in both directions", x.delay(1, 0), 99);
        Check.same("8: no link", x.delay(0, 2), -1);
        Check.same("8: the same peer", x.delay(1, 1), -1);
        x.setLink(2, 1, false);
        Check.same("8: a link that is down", x.delay(1, 2), -1);
        Check.same("8: the other way too", x.delay(2, 1), -1);
        x.setLink(1, 2, true);
        Check.same("8: up again", x.delay(2, 1), 1);
    }

    private static void introductions() {
        PeerOverlay x = Check.overlay(CHAIN);
        for (int peer = 1; peer <= 6; peer++) {
            Check.same("9: along the chain to " + peer, x.introductionsNeeded(0, peer), peer - 1);
            Check.same("9: and back from " + peer, x.introductionsNeeded(peer, 0), peer - 1);
        }
        Check.same("9: not possible", x.introductionsNeeded(0, 7), -1);
        Check.same("9: not possible from there", x.introductionsNeeded(7, 3), -1);
        x.introduce(1, 0, 2);
        Check.same("9: one fewer", x.introductionsNeeded(0, 6), 4);
        PeerOverlay whole = Check.overlay(CHAIN + "knows 6 7;");
        Check.same("9: the longest chain", whole.introductionsNeeded(7, 0), 6);
    }

    private static void introducers() {
        PeerOverlay x = Check.overlay("peer 1 1;".repeat(5) + "knows 0 3; knows 3 1; knows 0 2; knows 2 1; knows 0 1;");
        Check.same("10: the lowest", x.introducer(0, 1), 2);
        Check.same("10: the lowest, the other way", x.introducer(1, 0), 2);
        Check.same("10: between others", x.introducer(2, 3), 0);
        Check.same("10: none", x.introducer(0, 4), -1);
        Check.same("10: one of the two does not count", Check.overlay("peer 1 1; peer 1 1; knows 0 1;").introducer(0, 1), -1);
    }

    private static void loads() {
        PeerOverlay x = Check.overlay(RELAYS + "link 0 1 1; probe 1 1;");
        Check.same("11: none at first", x.load(2), 0);
        x.open(0, 1);
        Check.same("11: one session", x.load(2), 1);
        x.open(1, 0);
        Check.same("11: scores 21 and 11", x.path(1), 3);
        Check.same("11: its load", x.load(3), 1);
        x.send(0, 1);
        x.run(1);
        Check.same("11: direct now", x.path(0), 100);
        Check.same("11: the old path counts", x.load(2), 1);
        Check.same("11: an empty old path does not", x.load(3), 0);
        x.setLink(0, 1, false);
        Check.same("11: scores 21 and 11 for the first", x.path(0), 3);
        Check.same("11: 3 is full for the second", x.path(1), 2);
        Check.same("11: an old path and a path", x.load(2), 2);
        x.close(1);
        x.setLink(0, 3, false);
        Check.same("11: path and old path", x.path(0), 2);
        Check.same("11: are the same", x.oldPath(0), 2);
        Check.same("11: sessions are counted, once each", x.load(2), 1);
    }

    private static void bestRelays() {
        PeerOverlay x = Check.overlay(RELAYS);
        Check.same("12: equal scores, the lowest", x.bestRelay(0, 1), 2);
        x.open(0, 1);
        Check.same("12: with its load", x.bestRelay(0, 1), 3);
        x.open(1, 0);
        Check.same("12: 3 is full", x.bestRelay(0, 1), 2);
        PeerOverlay three = Check.overlay(RELAYS + "knows 2 3; knows 3 4; knows 2 4; link 3 4 1; link 2 3 1; link 2 4 1;");
        Check.same("12: not the two themselves", three.bestRelay(2, 3), 4);
        Check.same("12: nobody knows both", Check.overlay("peer 9 1; peer 9 1; peer 9 1; knows 0 1;").bestRelay(0, 2), -1);
    }

    private static void whoCanRelay() {
        PeerOverlay x = Check.overlay("peer 1 1; peer 1 1; peer 1 1; peer 0 1;"
                + "link 0 2 1; link 1 2 1; link 0 3 1; link 1 3 1; knows 0 2; knows 0 3; knows 1 3;");
        Check.same("12: 2 does not know 1, and 3 has no capacity", x.bestRelay(0, 1), -1);
        Check.badState("13: does not know the receiver", () -> x.relayScore(2, 0, 1));
        Check.badState("13: does not know the sender", () -> x.relayScore(2, 1, 0));
        Check.same("13: whatever its load", x.relayScore(3, 0, 1), 2);
        PeerOverlay y = Check.overlay("peer 1 1; peer 1 1; peer 1 1; link 0 2 1; link 1 2 1; knows 0 2; knows 1 2;");
        Check.same("12: the two need not know each other", y.bestRelay(0, 1), 2);
        y.setLink(0, 2, false);
        Check.same("12: a link is down", y.bestRelay(0, 1), -1);
        Check.badState("13: the first link is down", () -> y.relayScore(2, 0, 1));
        Check.badState("13: the second link is down", () -> y.relayScore(2, 1, 0));
        PeerOverlay z = Check.overlay("peer 1 1; peer 1 1; peer 1 1; link 0 2 1; knows 0 2; knows 1 2;");
        Check.badState("13: no second link", () -> z.relayScore(2, 0, 1));
        Check.badState("13: no first link", () -> z.relayScore(2, 1, 0));
    }

    private static int score(String sum) {
        // The relay has delays 5 and 8, load 1, capacity 7, and one of the two is in another zone.
        PeerOverlay x = Check.overlay("peer 1 3; peer 1 4; peer 7 4; link 0 2 5; link 2 1 8;"
                + "knows 0 1; knows 0 2; knows 1 2; score " + sum + ";");
        x.open(1, 0);
        Check.same("13: the load in " + sum, x.load(2), 1);
        return x.relayScore(2, 0, 1);
    }

    private static void scores() {
        Check.same("13: first", score("first"), 5);
        Check.same("13: second", score("second"), 8);
        Check.same("13: load", score("load"), 1);
        Check.same("13: capacity", score("capacity"), 7);
        Check.same("13: zones", score("zones"), 1);
        Check.same("13: a number", score("0987"), 987);
        String far = "peer 1 1; peer 1 2; peer 1 3; link 0 2 5; link 2 1 8; knows 0 2; knows 1 2; score zones;";
        Check.same("13: two other zones", Check.overlay(far).relayScore(2, 0, 1), 2);
        String near = "peer 1 3; peer 1 3; peer 1 3; link 0 2 5; link 2 1 8; knows 0 2; knows 1 2; score zones;";
        Check.same("13: no other zone", Check.overlay(near).relayScore(2, 0, 1), 0);
        String back = "peer 1 3; peer 1 3; peer 1 3; link 0 2 5; link 2 1 8; knows 0 2; knows 1 2; score first * 100 + second;";
        Check.same("13: there", Check.overlay(back).relayScore(2, 0, 1), 508);
        Check.same("13: and back", Check.overlay(back).relayScore(2, 1, 0), 805);
    }

    private static void scoreArithmetic() {
        Check.same("13: rank", score("1 + 2 * 3"), 7);
        Check.same("13: left to right", score("10 - 3 - 2"), 5);
        Check.same("13: left to right again", score("100 / 10 * 2 / 3"), 6);
        Check.same("13: brackets", score("(1 + 2) * (3 - (4 - 9))"), 24);
        Check.same("13: toward 0", score("(0 - 7) / 2"), -3);
        Check.same("13: a negative divisor", score("7 / (0 - 2)"), -3);
        Check.same("13: by 0", score("7 / 0"), 0);
        Check.same("13: by a sum of 0", score("3 + 9 / (first - 5) * 8"), 3);
        Check.same("13: overflow", score("9999 * 9999 * 9999"), 9999 * 9999 * 9999);
        Check.same("13: the smallest int by -1",
                score("(0 - 2048 * 1024 * 1024) / (0 - 1)"), Integer.MIN_VALUE);
        Check.same("13: deep", score("1 + 2 * (3 - 4 * (5 - 6 * (7 - 8 * (9 - 2 * (1 + first)))))"),
                1 + 2 * (3 - 4 * (5 - 6 * (7 - 8 * (9 - 2 * (1 + 5))))));
        PeerOverlay x = Check.overlay(RELAYS + "score 0 - first;");
        Check.same("12: the smallest, below 0", x.bestRelay(0, 1), 4);
    }

    private static void wrongPeers() {
        PeerOverlay x = Check.overlay(RELAYS);
        for (int bad : new int[] {-1, 5, 8, Integer.MIN_VALUE, Integer.MAX_VALUE}) {
            Check.outside("7: knows a " + bad, () -> x.knows(bad, 0));
            Check.outside("7: knows b " + bad, () -> x.knows(0, bad));
            Check.outside("8: delay a " + bad, () -> x.delay(bad, 0));
            Check.outside("8: delay b " + bad, () -> x.delay(0, bad));
            Check.outside("9: introductionsNeeded a " + bad, () -> x.introductionsNeeded(bad, bad));
            Check.outside("9: introductionsNeeded b " + bad, () -> x.introductionsNeeded(0, bad));
            Check.outside("10: introducer a " + bad, () -> x.introducer(bad, bad));
            Check.outside("10: introducer b " + bad, () -> x.introducer(0, bad));
            Check.outside("11: load " + bad, () -> x.load(bad));
            Check.outside("12: bestRelay a " + bad, () -> x.bestRelay(bad, bad));
            Check.outside("12: bestRelay b " + bad, () -> x.bestRelay(0, bad));
            Check.outside("13: relayScore relay " + bad, () -> x.relayScore(bad, 0, 0));
            Check.outside("13: relayScore sender " + bad, () -> x.relayScore(0, bad, 0));
            Check.outside("13: relayScore receiver " + bad, () -> x.relayScore(0, 0, bad));
        }
        Check.badArgument("9: the same", () -> x.introductionsNeeded(4, 4));
        Check.badArgument("10: the same", () -> x.introducer(0, 0));
        Check.badArgument("12: the same", () -> x.bestRelay(1, 1));
        Check.badArgument("13: relay and sender", () -> x.relayScore(1, 1, 2));
        Check.badArgument("13: relay and receiver", () -> x.relayScore(1, 2, 1));
        Check.badArgument("13: sender and receiver", () -> x.relayScore(1, 2, 2));
    }
}
