import java.util.ArrayDeque;
import java.util.HashMap;
import java.util.Map;

/** PEERS AND LINKS, the choice of relays, and promises 7 to 13: a test for each sentence that names a boundary case. */
public final class PeersBoundariesTest {
    private static final int[] FAR = {-1, Integer.MIN_VALUE, Integer.MAX_VALUE, 1 << 16, -100};
    /** Peer 2 can relay between 0 and 1. */
    private static final String ONE_RELAY = "link 0 2 5; link 2 1 8; knows 0 2; knows 1 2; knows 0 1;";

    private PeersBoundariesTest() {
    }

    public static void main(String[] args) {
        bothDirections();
        notItself();
        noSuchPeer();
        indexBeforeArgument();
        samePeers();
        delayLimits();
        noDelay();
        introductionLimits();
        introductionsOfAllGraphs();
        introducerLimits();
        loadLimits();
        loadCountsSessions();
        capacityLimits();
        equalScores();
        smallestScore();
        onlyThirdPeers();
        relayNeedsAll();
        relayScoreRefuses();
        whateverItsLoad();
        zonesCount();
        firstAndSecond();
        overflow();
        division();
        leftToRight();
        noRelay();
        Check.finish();
    }

    /** "Links join two peers in both directions; at first all links of the text are up. Knowing is mutual" */
    private static void bothDirections() {
        PeerOverlay x = Check.overlay("peer 1 1;".repeat(8) + "link 7 0 3; knows 7 0; link 3 4 9; knows 3 4;");
        for (int a = 0; a < 8; a++) {
            for (int b = 0; b < 8; b++) {
                boolean first = a + b == 7 && (a == 0 || b == 0);
                boolean second = a + b == 7 && (a == 3 || b == 3);
                Check.same("8: delay " + a + " " + b, x.delay(a, b), first ? 3 : second ? 9 : -1);
                Check.same("7: knows " + a + " " + b, x.knows(a, b) ? 1 : 0, first || second ? 1 : 0);
            }
        }
    }

    /** "a peer does not know itself"; of delay, too, nothing is said that would refuse the same peer twice */
    private static void notItself() {
        PeerOverlay x = Check.overlay("peer 1 1; peer 1 1; peer 1 1; link 0 1 1; knows 0 1; knows 1 2;");
        x.introduce(1, 0, 2);
        for (int peer = 0; peer < 3; peer++) {
            Check.no("7: itself", x.knows(peer, peer));
            Check.same("8: with itself", x.delay(peer, peer), PeerOverlay.NONE);
        }
    }

    private static void pairs(PeerOverlay x, int a, int b) {
        String pair = " " + a + " " + b;
        Check.outside("7: knows" + pair, () -> x.knows(a, b));
        Check.outside("8: delay" + pair, () -> x.delay(a, b));
        Check.outside("9: introductionsNeeded" + pair, () -> x.introductionsNeeded(a, b));
        Check.outside("10: introducer" + pair, () -> x.introducer(a, b));
        Check.outside("12: bestRelay" + pair, () -> x.bestRelay(a, b));
    }

    /** "IndexOutOfBoundsException if there is no such peer", for the first number that is no peer, and for none at all */
    private static void noSuchPeer() {
        for (int peers = 0; peers <= 8; peers++) {
            PeerOverlay x = Check.overlay("peer 1 1;".repeat(peers));
            int none = peers;
            int last = peers - 1;
            pairs(x, none, last);
            pairs(x, last, none);
            Check.outside("11: load " + none, () -> x.load(none));
            Check.outside("13: relay " + none, () -> x.relayScore(none, last, last - 1));
            Check.outside("13: sender " + none, () -> x.relayScore(last, none, last - 1));
            Check.outside("13: receiver " + none, () -> x.relayScore(last, last - 1, none));
            if (peers > 0) {
                Check.no("7: the last is one", x.knows(last, 0));
                Check.same("8: the last is one", x.delay(last, 0), -1);
                Check.same("11: the last is one", x.load(last), 0);
            }
            for (int bad : FAR) {
                pairs(x, bad, last);
                pairs(x, last, bad);
                Check.outside("11: load " + bad, () -> x.load(bad));
            }
        }
    }

    /** "which is checked before any other exception" */
    private static void indexBeforeArgument() {
        PeerOverlay x = Check.overlay("peer 1 1; peer 1 1; peer 1 1;");
        for (int bad : new int[] {-1, 3, 8, Integer.MIN_VALUE, Integer.MAX_VALUE}) {
            pairs(x, bad, bad);
            Check.outside("13: all three are " + bad, () -> x.relayScore(bad, bad, bad));
            Check.outside("13: the relay is " + bad, () -> x.relayScore(bad, 1, 1));
            Check.outside("13: the sender is " + bad, () -> x.relayScore(1, bad, 1));
            Check.outside("13: the receiver is " + bad, () -> x.relayScore(1, 1, bad));
        }
    }

    /** "IllegalArgumentException if both are the same"; "if two of the three peers are the same (checked second)" */
    private static void samePeers() {
        PeerOverlay x = Check.overlay("peer 1 1;".repeat(8));
        for (int peer = 0; peer < 8; peer++) {
            int one = peer;
            int other = (peer + 1) % 8;
            Check.badArgument("9: both " + peer, () -> x.introductionsNeeded(one, one));
            Check.badArgument("10: both " + peer, () -> x.introducer(one, one));
            Check.badArgument("12: both " + peer, () -> x.bestRelay(one, one));
            // Nobody knows anybody here, which would be an IllegalStateException if it were checked before.
            Check.badArgument("13: relay and sender " + peer, () -> x.relayScore(one, one, other));
            Check.badArgument("13: relay and receiver " + peer, () -> x.relayScore(one, other, one));
            Check.badArgument("13: sender and receiver " + peer, () -> x.relayScore(other, one, one));
            Check.badArgument("13: all three " + peer, () -> x.relayScore(one, one, one));
        }
    }

    /** "delay 1 to 99" */
    private static void delayLimits() {
        PeerOverlay x = Check.overlay("peer 1 1; peer 1 1; peer 1 1; link 0 1 1; link 1 2 99;");
        Check.same("8: the smallest", x.delay(0, 1), 1);
        Check.same("8: the largest", x.delay(2, 1), 99);
    }

    /** "the delay; NONE if there is no link between them, or it is down" */
    private static void noDelay() {
        PeerOverlay x = Check.overlay("peer 1 1; peer 1 1; peer 1 1; link 0 1 4; knows 0 2;");
        Check.same("8: no link", x.delay(0, 2), -1);
        x.setLink(0, 1, false);
        Check.same("8: down", x.delay(0, 1), -1);
        Check.same("8: down the other way", x.delay(1, 0), -1);
        x.setLink(1, 0, true);
        Check.same("8: up", x.delay(0, 1), 4);
        Check.same("8: up the other way", x.delay(1, 0), 4);
        x.undo();
        Check.same("8: down again", x.delay(1, 0), -1);
    }

    /** "the number, 0 if they know each other; NONE if it is not possible" */
    private static void introductionLimits() {
        String chain = "peer 1 1;".repeat(8);
        for (int peer = 0; peer < 7; peer++) {
            chain += "knows " + peer + " " + (peer + 1) + ";";
        }
        PeerOverlay x = Check.overlay(chain);
        Check.same("9: they know each other", x.introductionsNeeded(0, 1), 0);
        Check.same("9: the longest chain", x.introductionsNeeded(0, 7), 6);
        Check.same("9: and back", x.introductionsNeeded(7, 0), 6);
        for (int met = 2; met <= 7; met++) {
            x.introduce(met - 1, 0, met);
            Check.same("9: one fewer after each", x.introductionsNeeded(0, 7), 7 - met);
        }
        PeerOverlay ring = Check.overlay(chain + "knows 7 0;");
        Check.same("9: half of the ring", ring.introductionsNeeded(0, 4), 3);
        Check.same("9: the shorter way", ring.introductionsNeeded(0, 5), 2);
        PeerOverlay apart = Check.overlay("peer 1 1;".repeat(8) + "knows 0 1; knows 1 2; knows 3 4; knows 4 5;");
        Check.same("9: in two parts", apart.introductionsNeeded(2, 3), -1);
        Check.same("9: nobody knows it", apart.introductionsNeeded(0, 7), -1);
        Check.same("9: nobody knows either", apart.introductionsNeeded(6, 7), -1);
        Check.same("9: two peers alone", Check.overlay("peer 1 1; peer 1 1;").introductionsNeeded(0, 1), -1);
    }

    /** "the fewest introductions after which two peers would know each other", by trying all introductions */
    private static void introductionsOfAllGraphs() {
        int[] from = {0, 0, 0, 1, 1, 2};
        int[] to = {1, 2, 3, 2, 3, 3};
        for (int graph = 0; graph < 64; graph++) {
            StringBuilder text = new StringBuilder("peer 1 1;".repeat(4));
            for (int edge = 0; edge < 6; edge++) {
                if ((graph >> edge & 1) != 0) {
                    text.append("knows ").append(to[edge]).append(' ').append(from[edge]).append(';');
                }
            }
            PeerOverlay x = Check.overlay(text.toString());
            Map<Integer, Integer> reached = introduceInAllWays(graph, from, to);
            for (int edge = 0; edge < 6; edge++) {
                int fewest = -1;
                for (Map.Entry<Integer, Integer> entry : reached.entrySet()) {
                    boolean known = (entry.getKey() >> edge & 1) != 0;
                    if (known && (fewest < 0 || entry.getValue() < fewest)) {
                        fewest = entry.getValue();
                    }
                }
                Check.same("9: in " + text, x.introductionsNeeded(from[edge], to[edge]), fewest);
                Check.same("9: back in " + text, x.introductionsNeeded(to[edge], from[edge]), fewest);
            }
        }
    }

    private static Map<Integer, Integer> introduceInAllWays(int graph, int[] from, int[] to) {
        Map<Integer, Integer> reached = new HashMap<>();
        ArrayDeque<Integer> next = new ArrayDeque<>();
        reached.put(graph, 0);
        next.add(graph);
        while (!next.isEmpty()) {
            int known = next.remove();
            for (int one = 0; one < 6; one++) {
                for (int two = 0; two < 6; two++) {
                    int added = thirdSide(one, two, from, to);
                    if (one != two && added >= 0 && (known >> one & known >> two & 1) != 0) {
                        int wider = known | 1 << added;
                        if (reached.putIfAbsent(wider, reached.get(known) + 1) == null) {
                            next.add(wider);
                        }
                    }
                }
            }
        }
        return reached;
    }

    /** The edge that closes a triangle with two edges that share a peer; -1 if they share none. */
    private static int thirdSide(int one, int two, int[] from, int[] to) {
        int ends = 1 << from[one] ^ 1 << to[one] ^ 1 << from[two] ^ 1 << to[two];
        for (int edge = 0; edge < 6; edge++) {
            if ((1 << from[edge] | 1 << to[edge]) == ends) {
                return edge;
            }
        }
        return -1;
    }

    /** "the lowest peer that knows both of two peers"; "NONE if there is none" */
    private static void introducerLimits() {
        PeerOverlay x = Check.overlay("peer 1 1;".repeat(8) + "knows 3 4; knows 7 3; knows 7 4; knows 0 3; knows 5 4;");
        Check.same("10: the last peer", x.introducer(3, 4), 7);
        Check.same("10: the two themselves don't count", x.introducer(4, 3), 7);
        Check.same("10: who knows one alone does not", x.introducer(0, 5), -1);
        Check.same("10: nobody", x.introducer(1, 2), -1);
        PeerOverlay y = Check.overlay("peer 1 1;".repeat(8) + "knows 0 6; knows 0 7; knows 1 6; knows 1 7; knows 5 6; knows 5 7;");
        Check.same("10: the first peer", y.introducer(6, 7), 0);
        Check.same("10: from the other side", y.introducer(7, 6), 0);
        Check.same("10: the first of the others", y.introducer(0, 1), 6);
        PeerOverlay z = Check.overlay("peer 1 1;".repeat(8) + "knows 2 1; knows 2 0; knows 1 0;");
        Check.same("10: above both", z.introducer(0, 1), 2);
        Check.same("10: between both", z.introducer(0, 2), 1);
        Check.same("10: below both", z.introducer(2, 1), 0);
    }

    /** "The load of a peer is the number of sessions whose path, or whose old path ... leads over it." */
    private static void loadLimits() {
        PeerOverlay x = Check.overlay("peer 1 1; peer 1 1; peer 1 1; peer 6 1; link 0 3 1; link 1 3 1; link 2 3 1;"
                + "knows 0 1; knows 0 2; knows 1 2; knows 0 3; knows 1 3; knows 2 3;");
        Check.same("11: at first", x.load(3), 0);
        int number = 0;
        for (int sender = 0; sender < 3; sender++) {
            for (int receiver = 0; receiver < 3; receiver++) {
                if (sender != receiver) {
                    Check.same("29: session", x.open(sender, receiver), number);
                    number++;
                    Check.same("11: with each session", x.load(3), number);
                }
            }
        }
        Check.same("11: sender and receiver bear none", x.load(0) + x.load(1) + x.load(2), 0);
        x.setLink(0, 3, false);
        Check.same("11: those of peer 0 are gone", x.load(3), 2);
        x.close(3);
        Check.same("11: a closed session is gone", x.load(3), 1);
        x.undo();
        x.undo();
        Check.same("11: undone", x.load(3), 6);
    }

    /** A session whose path and old path lead over the same peer is one session. */
    private static void loadCountsSessions() {
        PeerOverlay x = Check.overlay("peer 9 1; peer 9 1; peer 2 1; link 0 1 30; link 0 2 20; link 2 1 20;"
                + "knows 0 1; knows 0 2; knows 1 2; probe 1 1;");
        x.open(0, 1);
        x.send(0, 1);
        x.run(1);
        Check.same("16: direct", x.path(0), 100);
        Check.same("11: by the old path", x.load(2), 1);
        x.setLink(0, 1, false);
        Check.same("16: its capacity is 2", x.path(0), 2);
        Check.same("17: the same", x.oldPath(0), 2);
        Check.same("11: one session", x.load(2), 1);
        x.run(39);
        Check.same("17: empty", x.oldPath(0), -1);
        Check.same("11: by the path", x.load(2), 1);
    }

    /** "whose load is less than their capacity" */
    private static void capacityLimits() {
        for (int capacity = 0; capacity <= 9; capacity++) {
            PeerOverlay x = Check.overlay("peer 1 1; peer 1 1; peer 1 1; peer " + capacity + " 1; link 0 3 1; link 1 3 1; link 2 3 1;"
                    + "knows 0 1; knows 0 2; knows 1 2; knows 0 3; knows 1 3; knows 2 3;");
            int opened = 0;
            for (int sender = 0; sender < 3; sender++) {
                for (int receiver = 0; receiver < 3; receiver++) {
                    if (sender != receiver) {
                        int due = opened < capacity ? 3 : -1;
                        Check.same("12: capacity " + capacity + ", load " + opened, x.bestRelay(sender, receiver), due);
                        Check.same("16: so does open", x.path(x.open(sender, receiver)), due);
                        opened++;
                    }
                }
            }
            Check.same("11: never more than its capacity", x.load(3), Math.min(capacity, 6));
        }
    }

    private static final String FOUR_RELAYS = "peer 1 1;".repeat(6)
            + "link 0 2 9; link 2 1 9; link 0 3 4; link 3 1 6; link 0 4 6; link 4 1 4; link 0 5 1; link 5 1 8;"
            + "knows 0 2; knows 1 2; knows 0 3; knows 1 3; knows 0 4; knows 1 4; knows 0 5; knows 1 5;";

    /** "the one with the smallest score; of several the lowest" */
    private static void equalScores() {
        Check.same("12: all equal", Check.overlay(FOUR_RELAYS + "score 7;").bestRelay(0, 1), 2);
        Check.same("12: all equal, from the other side", Check.overlay(FOUR_RELAYS + "score 7;").bestRelay(1, 0), 2);
        Check.same("12: two of them", Check.overlay(FOUR_RELAYS + "score (first + second - 10) * (first + second - 10);").bestRelay(0, 1), 3);
        Check.same("12: the last alone", Check.overlay(FOUR_RELAYS + "score first + second;").bestRelay(0, 1), 5);
    }

    /** Scores at the ends of int and below 0 */
    private static void smallestScore() {
        // 2147483647 is 46340 * 46340 + 88047; first is 9, 4, 6 and 1.
        String most = "4634 * 10 * 4634 * 10 + 9999 * 8 + 8055";
        Check.same("13: the largest int", Check.overlay(FOUR_RELAYS + "score " + most + ";").relayScore(2, 0, 1), Integer.MAX_VALUE);
        Check.same("12: the largest int will do", Check.overlay(FOUR_RELAYS + "score " + most + ";").bestRelay(0, 1), 2);
        Check.same("12: the smallest int will do", Check.overlay(FOUR_RELAYS + "score 0 - 1 - (" + most + ");").bestRelay(0, 1), 2);
        Check.same("12: one wraps around", Check.overlay(FOUR_RELAYS + "score " + most + " + first / 6 - first / 9;").bestRelay(0, 1), 4);
        Check.same("12: 0 is not the smallest", Check.overlay(FOUR_RELAYS + "score 4 - first;").bestRelay(0, 1), 2);
    }

    /** "A peer other than the two can be the relay" */
    private static void onlyThirdPeers() {
        PeerOverlay two = Check.overlay("peer 9 1; peer 9 1; link 0 1 1; knows 0 1;");
        Check.same("12: there is no third", two.bestRelay(0, 1), -1);
        PeerOverlay three = Check.overlay("peer 9 1; peer 9 1; peer 9 1; link 0 1 1; link 1 2 9; link 0 2 9; knows 0 1; knows 0 2; knows 1 2;");
        for (int a = 0; a < 3; a++) {
            for (int b = 0; b < 3; b++) {
                if (a != b) {
                    Check.same("12: the third for " + a + " " + b, three.bestRelay(a, b), 3 - a - b);
                }
            }
        }
    }

    /** "if it knows both, and its links with both are up"; "whether they know each other or not" */
    private static void relayNeedsAll() {
        String[] needed = {"knows 0 2;", "knows 1 2;", "link 0 2 5;", "link 1 2 6;"};
        for (int left = -1; left < 4; left++) {
            StringBuilder text = new StringBuilder("peer 1 1; peer 1 1; peer 1 1; link 0 1 1;");
            for (int at = 0; at < 4; at++) {
                text.append(at == left ? "" : needed[at]);
            }
            PeerOverlay x = Check.overlay(text.toString());
            Check.same("12: without " + left, x.bestRelay(0, 1), left < 0 ? 2 : -1);
            Check.same("12: back, without " + left, x.bestRelay(1, 0), left < 0 ? 2 : -1);
            if (left >= 0) {
                Check.badState("13: without " + left, () -> x.relayScore(2, 0, 1));
                Check.badState("13: back, without " + left, () -> x.relayScore(2, 1, 0));
            } else {
                Check.same("13: with all", x.relayScore(2, 0, 1), 11);
            }
        }
    }

    /** "if the relay does not know both, or a link of it with one of them does not exist or is down" */
    private static void relayScoreRefuses() {
        for (int end = 0; end < 2; end++) {
            int down = end;
            PeerOverlay x = Check.overlay("peer 1 1; peer 1 1; peer 1 1; link 0 1 1;" + ONE_RELAY);
            x.setLink(2, down, false);
            Check.badState("13: the link with " + down + " is down", () -> x.relayScore(2, 0, 1));
            Check.badState("13: back, the link with " + down + " is down", () -> x.relayScore(2, 1, 0));
            Check.same("12: no relay", x.bestRelay(0, 1), -1);
            x.setLink(2, down, true);
            Check.same("13: up", x.relayScore(2, 0, 1), 13);
            x.setLink(0, 1, false);
            Check.same("13: the direct link does not count", x.relayScore(2, 0, 1), 13);
        }
    }

    /** "Returns the score of a relay for a sender and a receiver, whatever its load." */
    private static void whateverItsLoad() {
        PeerOverlay none = Check.overlay("peer 1 1; peer 1 1; peer 0 1;" + ONE_RELAY);
        Check.same("13: no capacity", none.relayScore(2, 0, 1), 13);
        Check.same("12: but no relay", none.bestRelay(0, 1), -1);
        PeerOverlay full = Check.overlay("peer 1 1; peer 1 1; peer 1 1;" + ONE_RELAY);
        full.open(0, 1);
        Check.same("13: full", full.relayScore(2, 1, 0), 23);
        Check.same("12: no relay any more", full.bestRelay(1, 0), -1);
    }

    /** "zones is the number of those of sender and receiver that are in another zone than the relay" */
    private static void zonesCount() {
        int[][] zones = {{3, 3, 3, 0}, {4, 3, 3, 1}, {3, 4, 3, 1}, {4, 4, 3, 2}, {4, 5, 3, 2}, {0, 9, 0, 1}, {0, 9, 9, 1}};
        for (int[] row : zones) {
            PeerOverlay x = Check.overlay("peer 1 " + row[0] + "; peer 1 " + row[1] + "; peer 1 " + row[2] + ";" + ONE_RELAY + "score zones;");
            Check.same("13: zones", x.relayScore(2, 0, 1), row[3]);
            Check.same("13: zones back", x.relayScore(2, 1, 0), row[3]);
        }
    }

    /** "first is the delay of the link from the sender to the relay, second that of the link from the relay to the receiver" */
    private static void firstAndSecond() {
        PeerOverlay x = Check.overlay("peer 9 1; peer 8 1; peer 7 1;" + ONE_RELAY
                + "score first * 1000 + second * 100 + load * 10 + capacity;");
        Check.same("13: there", x.relayScore(2, 0, 1), 5807);
        Check.same("13: back", x.relayScore(2, 1, 0), 8507);
        x.open(0, 1);
        Check.same("13: with the load as it is then", x.relayScore(2, 0, 1), 5817);
        x.open(1, 0);
        Check.same("13: of two", x.relayScore(2, 0, 1), 5827);
        x.close(0);
        Check.same("13: of one again", x.relayScore(2, 1, 0), 8517);
    }

    private static int score(String sum) {
        return Check.overlay("peer 9 1; peer 8 2; peer 7 1;" + ONE_RELAY + "score " + sum + ";").relayScore(2, 0, 1);
    }

    /** "Arithmetic is that of int with overflow" */
    private static void overflow() {
        String most = "(4634 * 10 * 4634 * 10 + 9999 * 8 + 8055)";
        Check.same("13: the largest", score(most), Integer.MAX_VALUE);
        Check.same("13: one more", score(most + " + 1"), Integer.MIN_VALUE);
        Check.same("13: one less than the smallest", score("0 - " + most + " - 2"), Integer.MAX_VALUE);
        Check.same("13: twice", score(most + " * 2"), -2);
        Check.same("13: a product", score("9999 * 9999 * 9999 * 9999"), 9999 * 9999 * 9999 * 9999);
        Check.same("13: its square", score(most + " * " + most), 1);
        Check.same("13: a far product before a quotient", score("9999 * 9999 * 9999 / 7"), 9999 * 9999 * 9999 / 7);
    }

    /** "division truncates toward 0, and a division by 0 gives 0" */
    private static void division() {
        Check.same("13: 7 / 2", score("7 / 2"), 3);
        Check.same("13: -7 / 2", score("(0 - 7) / 2"), -3);
        Check.same("13: 7 / -2", score("7 / (0 - 2)"), -3);
        Check.same("13: -7 / -2", score("(0 - 7) / (0 - 2)"), 3);
        Check.same("13: 1 / 2", score("1 / 2"), 0);
        Check.same("13: -1 / 2", score("(0 - 1) / 2"), 0);
        Check.same("13: by 0", score("9999 / 0"), 0);
        Check.same("13: 0 by 0", score("0 / 0"), 0);
        Check.same("13: by 0 within", score("5 + 9 / 0 * 7 - 1"), 4);
        Check.same("13: by a load of 0", score("first / load"), 0);
        Check.same("13: by zones", score("second / (zones - 1)"), 0);
        Check.same("13: by a quotient of 0", score("5 / (1 / 2)"), 0);
        Check.same("13: the smallest by -1", score("(0 - 2048 * 1024 * 1024) / (0 - 1)"), Integer.MIN_VALUE);
    }

    /** "Operators of the same rank are applied from left to right." */
    private static void leftToRight() {
        Check.same("13: - -", score("9 - 5 - 2"), 2);
        Check.same("13: - +", score("9 - 5 + 2"), 6);
        Check.same("13: / /", score("100 / 10 / 5"), 2);
        Check.same("13: / *", score("7 / 2 * 2"), 6);
        Check.same("13: * /", score("7 * 2 / 4"), 3);
        Check.same("13: + *", score("1 + 2 * 3"), 7);
        Check.same("13: * +", score("2 * 3 + 1"), 7);
        Check.same("13: - * -", score("20 - 2 * 3 - 4"), 10);
        Check.same("13: - /", score("20 - 9 / 4 / 2"), 19);
        Check.same("13: five brackets", score("9 - (8 - (7 - (6 - (5 - (4 - 3 * 2)))))"), 9 - (8 - (7 - (6 - (5 - (4 - 3 * 2))))));
        Check.same("13: products before brackets", score("1 + 2 * (3 + 4 * (5 + 6 * (7 + 8 * (9 + 1 * (2 + 3 * 4)))))"),
                1 + 2 * (3 + 4 * (5 + 6 * (7 + 8 * (9 + 1 * (2 + 3 * 4))))));
        Check.same("13: a bracket in front", score("(((((2 + 3) * 2 - 1) * 2 - 1) * 2 - 1) * 2 - 1) * 2"), 130);
    }

    /** "A new session gets the best relay as its path, or none if there is no such relay." */
    private static void noRelay() {
        PeerOverlay x = Check.overlay("peer 9 1; peer 9 1; link 0 1 1; knows 0 1;");
        x.open(0, 1);
        Check.same("16: not even the direct path", x.path(0), PeerOverlay.NONE);
        PeerOverlay y = Check.overlay(FOUR_RELAYS + "knows 0 1; link 0 1 1;");
        Check.same("12: the best", y.bestRelay(0, 1), 5);
        y.open(0, 1);
        Check.same("16: becomes the path", y.path(0), 5);
    }
}
