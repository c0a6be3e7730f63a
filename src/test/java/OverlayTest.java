/** Promises 1 to 6: a new object, append, parse, errorPosition, peerCount, tick. */
public final class OverlayTest {
    private static final String NINE_PEERS = "peer 1 1;".repeat(9);

    private OverlayTest() {
    }

    public static void main(String[] args) {
        newObject();
        append();
        parseLengths();
        parseReplaces();
        failedParseKeeps();
        tokens();
        grammar();
        onlyOnce();
        ranges();
        tooMany();
        samePeers();
        smallestPosition();
        defaults();
        Check.finish();
    }

    private static void newObject() {
        PeerOverlay x = new PeerOverlay();
        Check.same("1: peerCount", x.peerCount(), 0);
        Check.same("1: tick", x.tick(), 0);
        Check.same("1: sessions", x.sessions(), 0);
        Check.same("1: errorPosition", x.errorPosition(), -1);
        Check.same("1: undo", x.undo(), -1);
        Check.badArgument("1: parse(1) of an empty buffer", () -> x.parse(1));
        Check.badState("1: restoreSnapshot(0)", () -> x.restoreSnapshot(0));
        Check.badState("1: restoreSnapshot(1)", () -> x.restoreSnapshot(1));
        Check.outside("1: knows(0, 0)", () -> x.knows(0, 0));
        Check.outside("1: load(0)", () -> x.load(0));
        Check.outside("1: path(0)", () -> x.path(0));
        Check.same("1: run", x.run(300), 0);
        Check.same("1: first append", x.append(0, 0, 0, 0, 0), 20);
    }

    private static void append() {
        PeerOverlay x = new PeerOverlay();
        for (int times = 1; times <= 30; times++) {
            Check.same("2: append " + times, x.append(0x20202020, 0x0a0a0a0a, 0x20202020, 0x20202020, 0x20202020), 20 * times);
        }
        Check.same("2: append beyond 600", x.append(-1, -1, -1, -1, -1), -1);
        Check.same("2: the refused bytes aren't there", x.parse(600), 0);
        Check.same("2: the buffer is empty after a parse", x.append(0, 0, 0, 0, 0), 20);
        Check.same("2: byte 0 is invalid", x.parse(20), 1);

        PeerOverlay order = new PeerOverlay();
        order.append(0x70656572, 0x20332035, 0x3b202020, 0x206c696e, 0x6b203020);
        order.append(0x31203b20, 0x20202020, 0x20202020, 0x20202020, 0x20202020);
        Check.same("2: most significant byte first", order.parse(40), 3);
        Check.same("2: the place of the byte", order.errorPosition(), 20);

        PeerOverlay high = new PeerOverlay();
        high.append(0x202020ff, 0, 0, 0, 0);
        Check.same("2: byte 255 is invalid", high.parse(20), 1);
        Check.same("2: at its place", high.errorPosition(), 3);
    }

    private static void parseLengths() {
        PeerOverlay x = new PeerOverlay();
        Check.same("3: the empty text", x.parse(0), 0);
        Check.badArgument("3: a negative length", () -> x.parse(-1));
        Check.badArgument("3: the smallest length", () -> x.parse(Integer.MIN_VALUE));
        Check.feed(x, "peer 1 2; peer 3 4;;");
        Check.badArgument("3: a length beyond the buffer", () -> x.parse(21));
        Check.badArgument("3: the largest length", () -> x.parse(Integer.MAX_VALUE));
        Check.same("3: the buffer is kept by a refused call", x.parse(19), 0);
        Check.same("3: only the first bytes count", x.peerCount(), 2);
        Check.badArgument("3: the buffer is empty after a success", () -> x.parse(1));
        Check.feed(x, "?");
        Check.same("3: an invalid byte", x.parse(20), 1);
        Check.badArgument("3: the buffer is empty after an error", () -> x.parse(1));
        Check.same("4: a refused call keeps the position", x.errorPosition(), 0);
        Check.same("3: the empty text again", x.parse(0), 0);
        Check.same("4: no position after a success", x.errorPosition(), -1);
        Check.same("5: no peers any more", x.peerCount(), 0);
        cutTokens();
    }

    /** What stands behind the length does not belong to a token that ends there. */
    private static void cutTokens() {
        PeerOverlay x = new PeerOverlay();
        Check.feed(x, "keys 12");
        Check.same("3: a number is cut", x.parse(6), 1);
        Check.same("4: at the end", x.errorPosition(), 6);
        Check.feed(x, "keys 12345");
        Check.same("3: a long number is cut, so it is one", x.parse(9), 3);
        Check.same("4: at its place", x.errorPosition(), 5);
        Check.feed(x, "probes 1 1;");
        Check.same("3: a word is cut", x.parse(5), 1);
        Check.same("4: at the end", x.errorPosition(), 5);
        for (String sign : new String[] {"a", "z", "1", "(", " "}) {
            Check.feed(x, sign.repeat(600));
            Check.same("3: 600 times " + sign, x.parse(600), sign.equals(" ") ? 0 : 1);
            Check.same("4: 600 times " + sign, x.errorPosition(), sign.equals(" ") ? -1 : 0);
        }
        Check.feed(x, "score " + "1+".repeat(296) + "1;");
        Check.same("3: 600 bytes", x.parse(600), 0);
        Check.same("3: a long sum", Check.parse(x, "peer 1 1; peer 1 1; peer 1 1; link 0 2 1; link 2 1 1;"
                + "knows 0 2; knows 1 2; score " + "1+".repeat(250) + "1;"), 0);
        Check.same("13: its value", x.relayScore(2, 0, 1), 251);
    }

    private static void parseReplaces() {
        PeerOverlay x = Check.overlay("peer 1 1; peer 1 1; peer 1 1; link 0 1 5; link 1 2 5; knows 0 1;");
        x.open(0, 1);
        x.run(7);
        x.setLink(0, 1, false);
        x.saveSnapshot(0);
        x.saveSnapshot(1);
        Check.same("6: tick", x.tick(), 7);
        Check.same("3: the second parse", Check.parse(x, "peer 1 1; peer 1 1; link 1 0 9;"), 0);
        Check.same("5: peerCount", x.peerCount(), 2);
        Check.same("6: tick after a parse", x.tick(), 0);
        Check.same("3: no sessions", x.sessions(), 0);
        Check.same("3: all links are up", x.delay(0, 1), 9);
        Check.no("3: knowing as in the text", x.knows(0, 1));
        Check.same("3: nothing to undo", x.undo(), -1);
        Check.badState("3: slot 0 is empty", () -> x.restoreSnapshot(0));
        Check.badState("3: slot 1 is empty", () -> x.restoreSnapshot(1));
    }

    private static void failedParseKeeps() {
        PeerOverlay x = Check.overlay("peer 1 1; peer 1 1; link 0 1 5; knows 0 1; keys 2; probe 1 1; score 7;");
        x.open(0, 1);
        x.saveSnapshot(0);
        x.send(0, 4);
        Check.same("3: a failing parse", Check.parse(x, "peer 1 1; keys 1; score 1; probe 5 5; knows 0 1;"), 3);
        Check.same("4: errorPosition", x.errorPosition(), 46);
        Check.same("5: peerCount stays", x.peerCount(), 2);
        Check.same("3: sessions stay", x.sessions(), 1);
        Check.same("3: keys stay", x.send(0, 5), 1);
        Check.same("3: the present key", x.key(0), 0);
        x.send(0, 6);
        Check.same("3: the next key", x.key(0), 1);
        x.run(1);
        Check.same("3: the probe stays", x.path(0), 100);
        Check.same("3: history stays", x.undo(), 4);
        Check.same("3: the snapshot stays", x.restoreSnapshot(0), 0);
        Check.same("4: errorPosition stays", x.errorPosition(), 46);
    }

    private static void tokens() {
        Check.overlay("");
        Check.overlay(" \n \n");
        Check.same("3: no separators needed", Check.overlay("peer1 2;peer3 4;link0 1 5;knows1 0;").delay(0, 1), 5);
        Check.same("3: line feeds", Check.overlay("peer\n1\n2\n;\n").peerCount(), 1);
        Check.same("3: leading zeros", Check.overlay("peer 0001 0009;").peerCount(), 1);
        Check.faulty("peer 00001 1;", 1, 5);
        Check.faulty("peer 1 12345;", 1, 7);
        Check.faulty("  peerpeerp 1 1;", 1, 2);
        Check.faulty("score capacityx;", 1, 6);
        Check.faulty("peer 1 1, peer", 1, 8);
        Check.faulty("Peer 1 1;", 1, 0);
        Check.faulty("peer\t1 1;", 1, 4);
        Check.faulty("peer 1 1;\r", 1, 9);
        Check.faulty("peer 1 1;\0", 1, 9);
        Check.faulty("peer 1 1;{", 1, 9);
        Check.faulty("peer 1 1;`", 1, 9);
        Check.faulty("peer 1 1:", 1, 8);
        Check.faulty("score 1.5;", 1, 7);
        Check.faulty("score 1,5;", 1, 7);
        Check.faulty("score 1%5;", 1, 7);
    }

    private static void grammar() {
        Check.faulty(";", 1, 0);
        Check.faulty("peer", 1, 4);
        Check.faulty("peer  ", 1, 6);
        Check.faulty("peer 1", 1, 6);
        Check.faulty("peer 1 1", 1, 8);
        Check.faulty("peer 1 1 \n ", 1, 11);
        Check.faulty("peer 1;", 1, 6);
        Check.faulty("peer 1 1 1;", 1, 9);
        Check.faulty("peer one 1;", 1, 5);
        Check.faulty("peer -1 1;", 1, 5);
        Check.faulty("peers 1 1;", 1, 0);
        Check.faulty("pee 1 1;", 1, 0);
        Check.faulty("beer 1 1;", 1, 0);
        Check.faulty("peek 1 1;", 1, 0);
        Check.faulty("score lead;", 1, 6);
        Check.faulty("7 1;", 1, 0);
        Check.faulty("peer 1 1;;", 1, 9);
        Check.faulty("first;", 1, 0);
        Check.faulty("peer 1 1; peer 1 1; link 0 1;", 1, 28);
        Check.faulty("peer 1 1; peer 1 1; knows 0 1 1;", 1, 30);
        Check.faulty("keys 1 1;", 1, 7);
        Check.faulty("probe 1;", 1, 7);
        Check.faulty("score;", 1, 5);
        Check.faulty("score 1 +;", 1, 9);
        Check.faulty("score + 1;", 1, 6);
        Check.faulty("score 1 2;", 1, 8);
        Check.faulty("score ();", 1, 7);
        Check.faulty("score (1;", 1, 8);
        Check.faulty("score 1);", 1, 7);
        Check.faulty("score (1", 1, 8);
        Check.faulty("score 1 *", 1, 9);
        Check.faulty("score peer;", 1, 6);
        Check.faulty("score zone;", 1, 6);
        Check.faulty("score 1 first;", 1, 8);
        Check.faulty("score (1)(2);", 1, 9);
        Check.overlay("score ((((( first * second )))) / load - capacity + zones ) ; ");
        Check.overlay("score 9999;");
    }

    private static void onlyOnce() {
        Check.faulty("score 1; score 1;", 2, 9);
        Check.faulty("probe 1 1; keys 1; probe 1 1;", 2, 19);
        Check.faulty("keys 1;keys", 2, 7);
        Check.faulty("keys 1 keys", 1, 7);
        Check.overlay("score 1; probe 1 1; keys 1;");
    }

    private static void ranges() {
        Check.overlay("peer 0 0; peer 9 9; link 0 1 1; link 1 0 99; probe 1 1; keys 1;");
        Check.overlay("probe 20 9; keys 99;");
        Check.faulty("peer 10 1;", 3, 5);
        Check.faulty("peer 1 10;", 3, 7);
        Check.faulty("probe 0 1;", 3, 6);
        Check.faulty("probe 21 1;", 3, 6);
        Check.faulty("probe 1 0;", 3, 8);
        Check.faulty("probe 1 10;", 3, 8);
        Check.faulty("keys 0;", 3, 5);
        Check.faulty("keys 100;", 3, 5);
        Check.faulty("link 0 0 1;", 3, 5);
        Check.faulty("knows 0 0;", 3, 6);
        Check.faulty("peer 1 1; peer 1 1; link 2 0 1;", 3, 25);
        Check.faulty("peer 1 1; peer 1 1; link 0 2 1;", 3, 27);
        Check.faulty("peer 1 1; peer 1 1; link 0 1 0;", 3, 29);
        Check.faulty("peer 1 1; peer 1 1; link 0 1 100;", 3, 29);
        Check.faulty("peer 1 1; knows 0 1; peer 1 1;", 3, 18);
    }

    private static void tooMany() {
        Check.same("5: eight peers", Check.overlay("peer 1 1;".repeat(8)).peerCount(), 8);
        Check.faulty(NINE_PEERS, 4, 72);
        Check.faulty("peer 1 1;".repeat(8) + "peer", 4, 72);
        Check.overlay("score (((((1)))));");
        Check.overlay("score (((((1))))) + (((((1)))));");
        Check.faulty("score ((((((1))))));", 4, 11);
        Check.faulty("score (((((1 + (2))))));", 4, 15);
        Check.faulty("score (((((1(", 1, 12);
    }

    private static void samePeers() {
        Check.faulty("peer 1 1; peer 1 1; link 1 1 5;", 5, 27);
        Check.faulty("peer 1 1; peer 1 1; knows 0 0;", 5, 28);
        Check.faulty("peer 1 1; peer 1 1; knows 1 01;", 5, 28);
        Check.faulty("peer 1 1; knows 1 1;", 3, 16);
    }

    private static void smallestPosition() {
        Check.faulty("peer 10 1; ?", 3, 5);
        Check.faulty("peer 1 1; keys 1; keys 0; peer 99 99", 2, 18);
        Check.faulty("peer 1 ? keys", 1, 7);
        Check.faulty("peer 1 1; peer 1 1; link 0 0 100;", 5, 27);
        Check.faulty(NINE_PEERS + "?", 4, 72);
    }

    private static void defaults() {
        PeerOverlay x = Check.overlay("peer 9 1; peer 9 1; peer 9 1; link 0 1 4; link 1 2 3; link 0 2 50;"
                + "knows 0 1; knows 1 2; knows 0 2;");
        Check.same("3: the score without its statement", x.relayScore(1, 0, 2), 7);
        x.open(0, 2);
        Check.same("3: with a load of 1", x.relayScore(1, 0, 2), 17);
        for (int times = 0; times < 10; times++) {
            x.send(0, times);
        }
        Check.same("3: many is 10", x.key(0), 0);
        x.send(0, 10);
        Check.same("3: the eleventh has the next key", x.key(0), 1);
        Check.same("3: period 3 and need 2", x.ticksToDirect(0), 6);
        x.run(5);
        Check.same("3: not yet", x.path(0), 1);
        x.run(1);
        Check.same("3: direct after two probes", x.path(0), 100);
    }
}
