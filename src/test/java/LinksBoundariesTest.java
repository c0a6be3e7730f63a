/** Links that go down and up, and promises 28 and 31: a test of its own for each sentence that names a boundary case. */
public final class LinksBoundariesTest {
    private static final int[] NO_PEERS = {-1, 4, 8, Integer.MIN_VALUE, Integer.MAX_VALUE};
    /** Between 0 and 1 the relay 2 takes 2 + 3, the relay 3 20 + 30, the direct link 10. */
    private static final String TWO_RELAYS = "peer 9 1; peer 9 1; peer 9 1; peer 9 1; link 0 1 10;"
            + "link 0 2 2; link 2 1 3; link 0 3 20; link 3 1 30;"
            + "knows 0 1; knows 0 2; knows 0 3; knows 1 2; knows 1 3; probe 4 1;";

    private LinksBoundariesTest() {
    }

    public static void main(String[] args) {
        introduceCounts();
        introduceRefuses();
        introduceOrder();
        introduceAll();
        linkRefuses();
        linkOrder();
        linkOfBothDirections();
        upMovesNothing();
        eachLinkOfAPath();
        firstAndLastPeer();
        oldPathUsesTheLink();
        successesOfAPath();
        bestRelayThen();
        directToRelay();
        waitingDontCount();
        arrivedDontCount();
        waitIfThereIsNone();
        anewFromNow();
        otherPathsMessages();
        ascendingNumber();
        ownOldPathCounts();
        pathAndOldPathAtOnce();
        Check.finish();
    }

    /** "Returns the number of peers that a knows then." */
    private static void introduceCounts() {
        PeerOverlay x = Check.overlay("peer 1 1;".repeat(8) + "knows 0 1; knows 0 2; knows 0 3; knows 0 4; knows 0 5; knows 0 6; knows 0 7;");
        for (int peer = 2; peer < 8; peer++) {
            Check.same("28: what 1 knows then", x.introduce(0, 1, peer), peer);
        }
        Check.same("28: what 3 knows then", x.introduce(0, 3, 2), 3);
        Check.same("28: not what b knows", x.introduce(1, 7, 2), 3);
        Check.same("28: the other way round", x.introduce(1, 2, 6), 5);
    }

    /** "IllegalStateException if the peer does not know both, or they know each other already" */
    private static void introduceRefuses() {
        PeerOverlay x = Check.overlay("peer 1 1;".repeat(4) + "knows 0 1; knows 0 2;");
        Check.badState("28: it does not know b", () -> x.introduce(0, 1, 3));
        Check.badState("28: it does not know a", () -> x.introduce(0, 3, 1));
        Check.badState("28: it knows neither", () -> x.introduce(3, 1, 2));
        Check.badState("28: a knows one alone", () -> x.introduce(1, 0, 2));
        Check.same("28: it knows both", x.introduce(0, 1, 2), 2);
        Check.badState("28: they know each other", () -> x.introduce(0, 1, 2));
        Check.badState("28: they know each other, the other way", () -> x.introduce(0, 2, 1));
        x.undo();
        Check.same("28: not any more", x.introduce(0, 2, 1), 2);
    }

    /** "(checked first)", "(checked second)" */
    private static void introduceOrder() {
        PeerOverlay x = Check.overlay("peer 1 1;".repeat(4) + "knows 0 1;");
        for (int bad : NO_PEERS) {
            Check.outside("28: peer " + bad, () -> x.introduce(bad, 0, 0));
            Check.outside("28: a " + bad, () -> x.introduce(0, bad, 0));
            Check.outside("28: b " + bad, () -> x.introduce(0, 0, bad));
            Check.outside("28: all " + bad, () -> x.introduce(bad, bad, bad));
        }
        for (int peer = 0; peer < 4; peer++) {
            int one = peer;
            int other = 3 - peer;
            Check.badArgument("28: peer and a " + peer, () -> x.introduce(one, one, other));
            Check.badArgument("28: peer and b " + peer, () -> x.introduce(one, other, one));
            Check.badArgument("28: a and b " + peer, () -> x.introduce(other, one, one));
            Check.badArgument("28: all three " + peer, () -> x.introduce(one, one, one));
        }
    }

    /** What is said to be needed is enough. */
    private static void introduceAll() {
        PeerOverlay x = Check.overlay("peer 1 1;".repeat(6) + "knows 5 4; knows 4 3; knows 3 2; knows 2 1; knows 1 0;");
        int done = 0;
        for (int needed = 4; needed > 0; needed--) {
            Check.same("9: needed", x.introductionsNeeded(0, 5), needed);
            x.introduce(done + 1, 0, done + 2);
            done++;
        }
        Check.same("9: none is needed", x.introductionsNeeded(0, 5), 0);
        Check.yes("7: they know each other", x.knows(5, 0));
    }

    /** "IllegalStateException if there is no link between them, or it is so already" */
    private static void linkRefuses() {
        PeerOverlay x = Check.overlay(TWO_RELAYS);
        Check.badState("31: no link to take up", () -> x.setLink(2, 3, true));
        Check.badState("31: no link to take down", () -> x.setLink(3, 2, false));
        Check.badState("31: up already", () -> x.setLink(0, 1, true));
        Check.badState("31: up already, the other way", () -> x.setLink(1, 0, true));
        x.setLink(0, 1, false);
        Check.badState("31: down already", () -> x.setLink(0, 1, false));
        Check.badState("31: down already, the other way", () -> x.setLink(1, 0, false));
        x.setLink(0, 1, true);
        Check.badState("31: up again already", () -> x.setLink(0, 1, true));
        Check.same("33: two changes", x.undo(), 1);
    }

    /** "(checked first)", "(checked second)" */
    private static void linkOrder() {
        PeerOverlay x = Check.overlay(TWO_RELAYS);
        for (int bad : NO_PEERS) {
            Check.outside("31: a " + bad, () -> x.setLink(bad, 0, false));
            Check.outside("31: b " + bad, () -> x.setLink(0, bad, true));
            Check.outside("31: both " + bad, () -> x.setLink(bad, bad, false));
        }
        for (int peer = 0; peer < 4; peer++) {
            int one = peer;
            Check.badArgument("31: both " + peer, () -> x.setLink(one, one, false));
            Check.badArgument("31: both " + peer + ", up", () -> x.setLink(one, one, true));
        }
    }

    /** "Links join two peers in both directions" */
    private static void linkOfBothDirections() {
        for (int way = 0; way < 2; way++) {
            PeerOverlay x = Check.overlay(TWO_RELAYS);
            x.open(0, 1);
            x.open(1, 0);
            x.send(0, 1);
            x.send(1, 1);
            Check.same("16: the relay of the first", x.path(0), 2);
            Check.same("16: and of the second", x.path(1), 2);
            Check.same("31: both leave it", way == 0 ? x.setLink(2, 1, false) : x.setLink(1, 2, false), 2);
            Check.same("16: the first", x.path(0), 3);
            Check.same("16: the second", x.path(1), 3);
            Check.same("8: down", x.delay(2, 1), -1);
            Check.same("8: down the other way", x.delay(1, 2), -1);
        }
    }

    /** A link that goes up moves nothing; only ticks do. */
    private static void upMovesNothing() {
        PeerOverlay x = Check.overlay(TWO_RELAYS);
        x.setLink(0, 2, false);
        x.setLink(0, 3, false);
        x.open(0, 1);
        x.send(0, 1);
        x.setLink(0, 1, false);
        Check.same("31: the direct link up", x.setLink(0, 1, true), 0);
        Check.same("31: a relay's link up", x.setLink(0, 3, true), 0);
        Check.same("16: no path yet", x.path(0), -1);
        Check.same("19: it waits", x.messages(0, 0), 1);
        x.run(1);
        Check.same("16: a path", x.path(0), 3);
        Check.same("31: a better relay's link up", x.setLink(0, 2, true), 0);
        Check.same("16: the path stays", x.path(0), 3);
        Check.same("19: it travels", x.messages(0, 1), 1);
    }

    /** "If its path uses the link": the link from the sender, that to the receiver, and no other */
    private static void eachLinkOfAPath() {
        int[][] links = {{0, 2}, {2, 1}, {0, 1}, {0, 3}, {3, 1}};
        for (int at = 0; at < 5; at++) {
            for (int way = 0; way < 2; way++) {
                PeerOverlay x = Check.overlay(TWO_RELAYS);
                x.open(0, 1);
                x.send(0, 1);
                x.send(0, 2);
                int a = links[at][way];
                int b = links[at][1 - way];
                Check.same("31: link " + a + " " + b, x.setLink(a, b, false), at < 2 ? 2 : 0);
                Check.same("16: after " + a + " " + b, x.path(0), at < 2 ? 3 : 2);
                Check.same("22: after " + a + " " + b, x.key(0), at < 2 ? 1 : 0);
                Check.same("25: after " + a + " " + b, x.ticksToDeliver(0), at < 2 ? 50 : 5);
            }
        }
    }

    /** The first and the last peer are relays, senders and receivers like others. */
    private static void firstAndLastPeer() {
        int[][] triples = {{0, 3, 4}, {7, 3, 4}, {3, 0, 7}, {3, 7, 0}};
        for (int[] triple : triples) {
            for (int end = 1; end <= 2; end++) {
                int relay = triple[0];
                PeerOverlay x = Check.overlay("peer 1 1;".repeat(8) + "link " + relay + " " + triple[1] + " 3; link " + relay + " "
                        + triple[2] + " 4; knows " + relay + " " + triple[1] + "; knows " + relay + " " + triple[2]
                        + "; knows " + triple[1] + " " + triple[2] + ";");
                x.open(triple[1], triple[2]);
                Check.same("16: the relay", x.path(0), relay);
                x.send(0, 1);
                Check.same("31: its message", x.setLink(relay, triple[end], false), 1);
                Check.same("16: none", x.path(0), -1);
                Check.same("11: no load", x.load(relay), 0);
                x.setLink(triple[end], relay, true);
                x.run(1);
                Check.same("16: the relay again", x.path(0), relay);
                Check.same("27: its message", x.run(7), 1);
            }
        }
    }

    /** "If its old path uses the link, it has no old path any more." */
    private static void oldPathUsesTheLink() {
        int[][] links = {{0, 3}, {3, 1}, {0, 2}, {2, 1}};
        for (int at = 0; at < 4; at++) {
            for (int way = 0; way < 2; way++) {
                PeerOverlay x = Check.overlay(TWO_RELAYS + "score 0 - first;");
                x.open(0, 1);
                x.send(0, 1);
                x.run(4);
                Check.same("17: the slow relay", x.oldPath(0), 3);
                int a = links[at][way];
                int b = links[at][1 - way];
                Check.same("31: link " + a + " " + b, x.setLink(a, b, false), at < 2 ? 1 : 0);
                Check.same("17: after " + a + " " + b, x.oldPath(0), at < 2 ? -1 : 3);
                Check.same("16: after " + a + " " + b, x.path(0), 100);
                Check.same("11: after " + a + " " + b, x.load(3), at < 2 ? 0 : 1);
                Check.same("25: after " + a + " " + b, x.ticksToDeliver(0), at < 2 ? 10 : 46);
            }
        }
    }

    /** "If its path uses the link, the number of successes becomes 0" */
    private static void successesOfAPath() {
        PeerOverlay x = Check.overlay(TWO_RELAYS.replace("probe 4 1", "probe 1 5"));
        x.open(0, 1);
        x.run(3);
        x.setLink(0, 1, false);
        Check.same("18: the path does not use it", x.successes(0), 3);
        x.setLink(0, 1, true);
        x.setLink(1, 3, false);
        Check.same("18: nor this", x.successes(0), 3);
        x.setLink(1, 3, true);
        x.setLink(1, 2, false);
        Check.same("18: but this", x.successes(0), 0);
        x.run(4);
        x.setLink(0, 3, false);
        Check.same("16: to none", x.path(0), -1);
        Check.same("18: 0 again", x.successes(0), 0);
        x.run(2);
        Check.same("18: probes go on", x.successes(0), 2);
        x.setLink(0, 2, false);
        Check.same("18: without a path no link is used", x.successes(0), 2);
        x.setLink(0, 2, true);
        x.setLink(1, 2, true);
        x.run(1);
        Check.same("16: a relay in step 3", x.path(0), 2);
        Check.same("18: this alone changes no successes", x.successes(0), 3);
    }

    /** "the path becomes the best relay then, or none" */
    private static void bestRelayThen() {
        PeerOverlay x = Check.overlay(TWO_RELAYS);
        x.open(0, 1);
        Check.same("16: the best", x.path(0), 2);
        x.setLink(0, 2, false);
        Check.same("16: the next best", x.path(0), 3);
        x.setLink(0, 2, true);
        x.setLink(1, 3, false);
        Check.same("16: the first again", x.path(0), 2);
        x.setLink(1, 2, false);
        Check.same("16: none", x.path(0), -1);
        PeerOverlay full = Check.overlay(TWO_RELAYS.replace("peer 9 1; link 0 1", "peer 0 1; link 0 1"));
        full.open(0, 1);
        full.setLink(0, 2, false);
        Check.same("16: the other has no capacity", full.path(0), -1);
    }

    /** A direct path becomes a relay, though the relay's score may be worse than any. */
    private static void directToRelay() {
        PeerOverlay x = Check.overlay(TWO_RELAYS);
        x.open(0, 1);
        x.run(4);
        x.send(0, 1);
        Check.same("16: direct", x.path(0), 100);
        x.run(9);
        Check.same("31: one tick before it would arrive", x.setLink(0, 1, false), 1);
        Check.same("16: the best relay", x.path(0), 2);
        Check.same("17: a direct path is no old path", x.oldPath(0), -1);
        Check.same("27: it begins anew", x.run(4), 0);
        Check.same("27: and takes 2 + 3", x.run(1), 1);
    }

    /** "Returns the number of messages that begin to travel anew or wait because of it." */
    private static void waitingDontCount() {
        PeerOverlay x = Check.overlay(TWO_RELAYS);
        x.setLink(0, 3, false);
        x.open(0, 1);
        for (int sent = 0; sent < 12; sent++) {
            x.send(0, sent);
        }
        Check.same("31: all wait because of it", x.setLink(0, 2, false), 12);
        for (int sent = 12; sent < 24; sent++) {
            x.send(0, sent);
        }
        Check.same("19: all wait", x.messages(0, 0), 24);
        Check.same("31: none waits because of this", x.setLink(2, 1, false), 0);
        x.setLink(0, 2, true);
        x.setLink(2, 1, true);
        x.run(1);
        Check.same("31: all 24", x.setLink(2, 1, false), 24);
    }

    private static void arrivedDontCount() {
        PeerOverlay x = Check.overlay(TWO_RELAYS + "score 0 - first;");
        x.open(0, 1);
        x.send(0, 1);
        x.run(4);
        x.send(0, 2);
        x.run(10);
        Check.same("19: the second is kept", x.messages(0, 2), 1);
        Check.same("31: a kept one travels no more", x.setLink(0, 1, false), 0);
        Check.same("19: it is still kept", x.messages(0, 2), 1);
        x.run(36);
        Check.same("19: delivered", x.messages(0, 3), 2);
        x.send(0, 3);
        Check.same("31: delivered ones neither", x.setLink(0, x.path(0), false), 1);
    }

    /** "or wait if there is none" */
    private static void waitIfThereIsNone() {
        PeerOverlay x = Check.overlay("peer 1 1; peer 1 1; link 0 1 5; knows 0 1; probe 3 1;");
        x.open(0, 1);
        x.run(3);
        x.send(0, 1);
        x.run(4);
        Check.same("31: one", x.setLink(0, 1, false), 1);
        Check.same("19: it waits", x.messages(0, 0), 1);
        Check.same("27: it does not arrive", x.run(50), 0);
        x.setLink(0, 1, true);
        Check.same("25: after the next probe", x.ticksToDeliver(0), 3 + 5);
    }

    /** "begin to travel anew now along the present path" */
    private static void anewFromNow() {
        PeerOverlay x = Check.overlay(TWO_RELAYS.replace("probe 4 1", "probe 20 9"));
        x.open(0, 1);
        x.send(0, 1);
        x.run(4);
        x.send(0, 2);
        Check.same("31: both", x.setLink(0, 2, false), 2);
        x.setLink(0, 2, true);
        Check.same("27: not in 49", x.run(49), 0);
        Check.same("31: back over the fast relay", x.setLink(0, 3, false), 2);
        Check.same("27: not in 4", x.run(4), 0);
        Check.same("27: both in 5", x.run(1), 2);
    }

    /** "All messages of it that travel along a path that uses the link": also along one that is neither path nor old path */
    private static void otherPathsMessages() {
        PeerOverlay x = Check.overlay(TWO_RELAYS.replace("probe 4 1", "probe 1 1").replace("peer 9 1; link 0 1", "peer 1 1; link 0 1") + "score 0 - first;");
        x.open(0, 1);
        x.send(0, 1);
        x.run(1);
        x.setLink(0, 1, false);
        x.send(0, 2);
        x.setLink(0, 1, true);
        x.run(1);
        Check.same("16: direct", x.path(0), 100);
        Check.same("17: the fast one", x.oldPath(0), 2);
        Check.same("31: the message over the slow one", x.setLink(1, 3, false), 1);
        Check.same("17: the old path stays", x.oldPath(0), 2);
        Check.same("22: the path stays", x.key(0), 2);
        x.run(3);
        Check.same("19: the second is not there yet", x.messages(0, 2), 0);
        x.run(1);
        Check.same("19: the second is kept", x.messages(0, 2), 1);
        Check.same("25: the first on the direct path since tick 2", x.ticksToDeliver(0), 6);
    }

    /** "this is done for each session by ascending number" */
    private static void ascendingNumber() {
        PeerOverlay x = Check.overlay("peer 9 1; peer 9 1; peer 1 1; peer 1 1; link 0 1 9; link 0 2 5; link 2 1 5; link 0 3 7; link 3 1 7;"
                + "knows 0 1; knows 0 2; knows 1 2; knows 0 3; knows 1 3; probe 1 1;");
        x.open(1, 0);
        x.open(0, 1);
        x.run(1);
        x.send(0, 1);
        x.send(0, 2);
        x.send(1, 3);
        Check.same("31: of both", x.setLink(0, 1, false), 3);
        Check.same("16: the lower has the better", x.path(0), 2);
        Check.same("16: the higher the other", x.path(1), 3);
        Check.same("31: of the lower", x.setLink(2, 0, false), 2);
        Check.same("16: the other is full", x.path(0), -1);
        Check.same("16: the higher stays", x.path(1), 3);
        Check.same("31: of the higher", x.setLink(3, 0, false), 1);
        Check.same("16: none", x.path(1), -1);
    }

    /** The load is "as it is then": with the session's own old path, if this stays. */
    private static void ownOldPathCounts() {
        String text = TWO_RELAYS.replace("peer 9 1; link 0 1", "peer 1 1; link 0 1") + "score 0 - first;";
        PeerOverlay x = Check.overlay(text);
        x.open(0, 1);
        x.send(0, 1);
        x.run(4);
        Check.same("17: the slow relay", x.oldPath(0), 3);
        x.setLink(0, 1, false);
        Check.same("16: it is full of the old path", x.path(0), 2);
        Check.same("17: which stays", x.oldPath(0), 3);
        x.run(1);
        x.setLink(0, 2, false);
        Check.same("16: still full", x.path(0), -1);
        x.run(45);
        Check.same("17: empty in tick 50", x.oldPath(0), -1);
        Check.same("16: not in the same tick", x.path(0), -1);
        x.run(1);
        Check.same("16: in the next", x.path(0), 3);
    }

    /** The old path and the path of one session use the link: both go, before a relay is chosen. */
    private static void pathAndOldPathAtOnce() {
        PeerOverlay x = Check.overlay(TWO_RELAYS);
        x.open(0, 1);
        x.send(0, 1);
        x.run(3);
        x.send(0, 2);
        x.run(1);
        Check.same("17: old", x.oldPath(0), 2);
        x.setLink(0, 1, false);
        Check.same("16: the same relay again", x.path(0), 2);
        x.send(0, 3);
        Check.same("11: one session", x.load(2), 1);
        Check.same("31: all three", x.setLink(1, 2, false), 3);
        Check.same("17: no old path", x.oldPath(0), -1);
        Check.same("16: the other relay", x.path(0), 3);
        Check.same("11: no load", x.load(2), 0);
    }
}
