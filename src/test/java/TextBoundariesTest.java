/** OVERLAY TEXT and promises 1 to 6: a test of its own for each sentence that names a boundary case. */
public final class TextBoundariesTest {
    private static final int LONGEST = 600;
    private static final String EIGHT = "peer 1 1;".repeat(8);
    private static final String TWO = "peer 1 1; peer 1 1; ";

    private TextBoundariesTest() {
    }

    public static void main(String[] args) {
        newObject();
        appendOrder();
        appendFull();
        parseLength();
        parseShorterThanBuffer();
        parseReplacesAll();
        parseReplacesAgain();
        parseErrorChangesNothing();
        errorPositions();
        longestText();
        separators();
        signs();
        words();
        numbers();
        statements();
        sums();
        ranges();
        declaredPeers();
        numberedInOrder();
        laterLink();
        repeatedKnows();
        oncePerText();
        withoutThem();
        secondOfOne();
        ninthPeer();
        sixthBracket();
        samePeer();
        smallestPosition();
        smallestCode();
        endsTooEarly();
        Check.finish();
    }

    /** "an overlay without peers, with everything else as without its statement, and with an empty input buffer" */
    private static void newObject() {
        PeerOverlay parsed = new PeerOverlay();
        Check.same("1: the empty text", parsed.parse(0), 0);
        Everything.same("1: as after the empty text", new PeerOverlay(), parsed);
        PeerOverlay x = new PeerOverlay();
        Check.same("1: NONE", x.errorPosition(), PeerOverlay.NONE);
        Check.badArgument("1: the buffer is empty", () -> x.parse(1));
        Check.same("1: 20 bytes are the first", x.append(0, 0, 0, 0, 0), 20);
        Check.same("1: no history", x.undo(), -1);
        Check.no("1: slot 0 is empty", x.saveSnapshot(0));
        Check.no("1: slot 1 is empty", x.saveSnapshot(1));
        Check.same("1: tick 0 was saved", x.restoreSnapshot(1), 0);
    }

    /** "the four bytes of each argument, the most significant byte first" */
    private static void appendOrder() {
        for (int place = 0; place < 40; place++) {
            PeerOverlay x = new PeerOverlay();
            int[] fours = new int[10];
            for (int at = 0; at < 40; at++) {
                // A sign bit in the lower bytes would spoil the higher ones if they were added up.
                fours[at / 4] |= (at == place ? 0xff : 0x20) << (24 - at % 4 * 8);
            }
            Check.same("2: the first 20", x.append(fours[0], fours[1], fours[2], fours[3], fours[4]), 20);
            Check.same("2: the next 20", x.append(fours[5], fours[6], fours[7], fours[8], fours[9]), 40);
            Check.same("2: an invalid byte", x.parse(40), 1);
            Check.same("2: its place", x.errorPosition(), place);
        }
    }

    /** "the new length of the buffer; NONE, with nothing appended, if it would exceed 600" */
    private static void appendFull() {
        PeerOverlay x = new PeerOverlay();
        for (int length = 20; length <= LONGEST; length += 20) {
            Check.same("2: the new length", x.append(0x20202020, 0x20202020, 0x20202020, 0x20202020, 0x20202020), length);
        }
        Check.same("2: 620 would be too many", x.append(0, 0, 0, 0, 0), PeerOverlay.NONE);
        Check.same("2: again", x.append(0, 0, 0, 0, 0), -1);
        Check.badArgument("2: nothing was appended behind", () -> x.parse(601));
        Check.same("2: nor over what stood there", x.parse(600), 0);
        Check.same("2: the buffer is empty now", x.append(0, 0, 0, 0, 0), 20);
    }

    /** "length: 0 to the length of the buffer"; "IllegalArgumentException if length is out of range" */
    private static void parseLength() {
        for (int bad : new int[] {-1, 21, 600, 601, Integer.MIN_VALUE, Integer.MAX_VALUE}) {
            PeerOverlay x = new PeerOverlay();
            Check.same("3: an error before", Check.parse(x, " ?"), 1);
            Check.feed(x, "peer 1 1; peer 2 2;");
            Check.badArgument("3: length " + bad, () -> x.parse(bad));
            Check.same("4: the position of before", x.errorPosition(), 1);
            Check.same("3: the buffer stays", x.append(0, 0, 0, 0, 0), 40);
            Check.same("3: with its bytes", x.parse(20), 0);
            Check.same("5: both peers", x.peerCount(), 2);
        }
        PeerOverlay empty = new PeerOverlay();
        Check.badArgument("3: 1 of an empty buffer", () -> empty.parse(1));
        Check.badArgument("3: -1 of an empty buffer", () -> empty.parse(-1));
        Check.same("3: 0 of an empty buffer", empty.parse(0), 0);
    }

    /** "Parses the first length bytes of the input buffer"; "it is also empty after a success" */
    private static void parseShorterThanBuffer() {
        String text = "peer 1 1;peer 22 1;";
        // With 15 bytes the second capacity is 2; with 16 it is 22, which is out of range.
        int[] codes = {0, 1, 1, 1, 1, 1, 1, 1, 1, 0, 1, 1, 1, 1, 1, 1, 3, 3, 3, 3};
        int[] positions = {-1, 0, 0, 0, 4, 5, 6, 7, 8, -1, 9, 9, 9, 13, 14, 15, 14, 14, 14, 14};
        for (int length = 0; length <= text.length(); length++) {
            PeerOverlay x = new PeerOverlay();
            Check.feed(x, text);
            Check.same("3: the code of " + length + " bytes", x.parse(length), codes[length]);
            Check.same("4: the position of " + length + " bytes", x.errorPosition(), positions[length]);
            Check.badArgument("3: the rest of the buffer is gone, too", () -> x.parse(1));
            Check.same("3: and filled from its start", x.append(0, 0, 0, 0, 0), 20);
        }
    }

    private static PeerOverlay used() {
        PeerOverlay x = Check.overlay("peer 1 1; peer 1 1; peer 1 1; link 0 1 9; link 0 2 3; link 2 1 4;"
                + "knows 0 1; knows 0 2; probe 4 1; keys 1; score 5;");
        x.introduce(0, 1, 2);
        x.open(0, 1);
        x.send(0, 7);
        x.saveSnapshot(0);
        x.run(4);
        x.send(0, 8);
        x.saveSnapshot(1);
        x.setLink(2, 1, false);
        return x;
    }

    /** "A successful parse restores the initial situation ..., clears the undo history and empties both slots." */
    private static void parseReplacesAll() {
        String text = "peer 1 1; peer 2 1; peer 1 2; link 0 2 5; link 2 1 5; knows 0 1; knows 0 2; knows 1 2;";
        PeerOverlay x = used();
        Check.same("3: success", Check.parse(x, text), 0);
        Everything.same("3: as in a new object", x, Check.overlay(text));
        Check.same("6: tick 0", x.tick(), 0);
        Check.same("33: no history", x.undo(), -1);
        Check.badState("35: slot 0 is empty", () -> x.restoreSnapshot(0));
        Check.badState("35: slot 1 is empty", () -> x.restoreSnapshot(1));
        Check.no("34: no earlier one in slot 0", x.saveSnapshot(0));
        Check.no("34: no earlier one in slot 1", x.saveSnapshot(1));
        PeerOverlay emptied = used();
        Check.same("3: the empty text, too", emptied.parse(0), 0);
        Everything.same("3: no peers", emptied, new PeerOverlay());
        Check.same("33: no history there", emptied.undo(), -1);
    }

    /** "On success the described overlay replaces the current one": nothing of any earlier text, or of a faulty one, is left. */
    private static void parseReplacesAgain() {
        StringBuilder full = new StringBuilder("peer1 1;".repeat(8));
        for (int a = 0; a < 8; a++) {
            for (int b = 0; b < a; b++) {
                full.append("link").append(a).append(' ').append(b).append(" 5;knows").append(b).append(' ').append(a).append(';');
            }
        }
        for (int faulty = 0; faulty < 2; faulty++) {
            PeerOverlay x = new PeerOverlay();
            Check.same("3: full", Check.parse(x, full.toString()), 0);
            Check.same("3: full again", Check.parse(x, full.toString() + (faulty == 0 ? "" : "?")), faulty);
            Check.same("3: without links", Check.parse(x, EIGHT), 0);
            expectNoPairs(x);
            Check.same("3: without links again", Check.parse(x, EIGHT), 0);
            expectNoPairs(x);
            Check.same("3: no peers", x.parse(0), 0);
            Check.same("5: none", x.peerCount(), 0);
        }
        PeerOverlay scores = new PeerOverlay();
        String relay = "peer 1 1; peer 1 1; peer 1 1; link 0 2 5; link 2 1 8; knows 0 2; knows 1 2;";
        for (int times = 0; times < 8; times++) {
            Check.same("3: a long score", Check.parse(scores, relay + "score " + "1+".repeat(200) + times + ";"), 0);
            Check.same("13: its value", scores.relayScore(2, 0, 1), 200 + times);
            Check.same("3: no score", Check.parse(scores, relay), 0);
            Check.same("13: as without its statement", scores.relayScore(2, 0, 1), 13);
        }
        PeerOverlay often = new PeerOverlay();
        for (int times = 0; times < 50; times++) {
            Check.same("3: no score", Check.parse(often, relay + "knows 0 1;"), 0);
            often.open(0, 1);
            Check.same("13: the same after each text", often.relayScore(2, 0, 1), 23);
        }
    }

    private static void expectNoPairs(PeerOverlay x) {
        for (int a = 0; a < 8; a++) {
            for (int b = 0; b < 8; b++) {
                Check.same("8: delay " + a + " " + b, x.delay(a, b), -1);
                Check.no("7: knows " + a + " " + b, x.knows(a, b));
            }
        }
    }

    /** "On a parse error nothing changes except that the buffer is emptied" */
    private static void parseErrorChangesNothing() {
        String[] faulty = {"?", "keys 1; keys 1;", "peer 10 1;", EIGHT + "peer 1 1;", TWO + "knows 0 0;",
            "peer 9 9; peer 9 9; peer 9 9; peer 9 9; link 0 1 1; link 1 2 1; score 1; probe 1 1; keys 9; knows 2 3"};
        for (String text : faulty) {
            PeerOverlay x = used();
            Check.yes("3: an error in " + text, Check.parse(x, text) != 0);
            Check.badArgument("3: the buffer is empty", () -> x.parse(1));
            PeerOverlay due = used();
            Check.same("3: nothing changes", withoutPosition(x).compareTo(withoutPosition(due)), 0);
            for (int left = 5; left >= 0; left--) {
                Check.same("33: the history stays", x.undo(), left);
            }
            Check.same("33: its end", x.undo(), -1);
            Check.same("35: slot 0 stays", x.restoreSnapshot(0), 0);
            Check.same("35: slot 1 stays", x.restoreSnapshot(1), 4);
            Check.same("3: the probe, the keys and the score stay", x.relayScore(2, 0, 1), 5);
        }
    }

    private static String withoutPosition(PeerOverlay x) {
        String all = Everything.of(x);
        return all.substring(all.indexOf('\n'));
    }

    /** "the last call of parse that did not throw an exception"; "NONE if that call succeeded or there was none" */
    private static void errorPositions() {
        PeerOverlay x = new PeerOverlay();
        Check.badArgument("4: a call that throws", () -> x.parse(9));
        Check.same("4: there was none", x.errorPosition(), -1);
        Check.same("3: an error", Check.parse(x, "?"), 1);
        Check.same("4: the smallest", x.errorPosition(), 0);
        Check.same("3: another", Check.parse(x, "peer 1 1 ?"), 1);
        Check.same("4: the last call", x.errorPosition(), 9);
        x.run(1);
        x.undo();
        x.saveSnapshot(0);
        x.restoreSnapshot(0);
        x.append(0, 0, 0, 0, 0);
        Check.badArgument("4: a call that throws again", () -> x.parse(21));
        Check.same("4: nothing but parse changes it", x.errorPosition(), 9);
        Check.same("3: a success", x.parse(0), 0);
        Check.same("4: that call succeeded", x.errorPosition(), -1);
    }

    /** "a text of at most 600 bytes" */
    private static void longestText() {
        String text = "peer 1 1;" + " ".repeat(582) + "peer 2 2;";
        Check.same("3: the last byte counts", Check.overlay(text).peerCount(), 2);
        PeerOverlay x = new PeerOverlay();
        Check.feed(x, text);
        Check.same("3: without the last byte", x.parse(599), 1);
        Check.same("4: its length", x.errorPosition(), 599);
        Check.faulty(" ".repeat(599) + "?", 1, 599);
        Check.faulty("score" + "\n".repeat(595), 1, 600);
        Check.faulty("score " + "1+".repeat(297), 1, 600);
        Check.overlay("score " + "1*".repeat(296) + "1;");
    }

    /** "Spaces (byte 32) and line feeds (byte 10) separate tokens and are otherwise ignored." */
    private static void separators() {
        for (int sign = 0; sign < 256; sign++) {
            String text = "peer 1" + (char) sign + "1;";
            if (sign == 32 || sign == 10) {
                Check.overlay(text);
            } else if (sign >= '0' && sign <= '9') {
                Check.faulty(text, 3, 5);
            } else {
                Check.faulty(text, 1, 6);
            }
        }
        Check.overlay(" ");
        Check.overlay("\n");
        Check.overlay("\n peer \n\n 1  1 \n;\n  score\n(\n1\n+ first ) ;\n \n");
        Check.overlay("peer1 1;score(1+first)*2;probe1 1;keys1;");
        Check.faulty("pe er 1 1;", 1, 0);
        Check.faulty("keys 1 0;", 1, 7);
    }

    /** "or one of the characters ; ( ) + - * /"; "any other byte, is an invalid token" */
    private static void signs() {
        for (int sign = 0; sign < 256; sign++) {
            String text = "score 1" + (char) sign + "2;";
            if ("+-*/0123456789".indexOf(sign) >= 0) {
                Check.overlay(text);
            } else {
                Check.faulty(text, 1, " \n;".indexOf(sign) >= 0 ? 8 : 7);
            }
            if (sign != ')') {
                Check.faulty("score (1" + (char) sign, 1, "+-*/0123456789 \n".indexOf(sign) >= 0 ? 9 : 8);
            }
            Check.faulty((char) sign + ";", 1, " \n".indexOf(sign) >= 0 ? 1 : 0);
        }
        Check.overlay("score (1);");
    }

    /** "a word (a maximal run of letters a to z, 1 to 8 letters)"; "A longer run ... is an invalid token." */
    private static void words() {
        Check.overlay("score capacity;");
        Check.faulty("score capacityy;", 1, 6);
        Check.faulty("score capacitypeer;", 1, 6);
        Check.faulty("score firstfirst;", 1, 6);
        Check.faulty("a", 1, 0);
        Check.faulty("score f;", 1, 6);
        for (int sign = 0; sign < 256; sign++) {
            if (sign != 'e') {
                Check.faulty("pe" + (char) sign + "r 1 1;", 1, 0);
            }
        }
        for (String word : new String[] {"peer", "link", "knows", "score", "probe", "keys", "first", "second", "load",
            "capacity", "zones"}) {
            Check.faulty(word.substring(0, word.length() - 1) + " 1 1;", 1, 0);
            Check.faulty(word.substring(1) + " 1 1;", 1, 0);
            Check.faulty("x" + word.substring(1) + " 1 1;", 1, 0);
            Check.faulty(word + "s 1 1;", 1, 0);
            Check.faulty(word.toUpperCase() + " 1 1;", 1, 0);
            Check.faulty("score " + word.substring(0, word.length() - 1) + ";", 1, 6);
            Check.faulty("score x" + word.substring(1) + ";", 1, 6);
            Check.faulty("score " + word + "s;", 1, 6);
        }
        Check.faulty("z".repeat(600), 1, 0);
    }

    /** "a number (a maximal run of digits, 1 to 4 digits)"; "A longer run ... is an invalid token." */
    private static void numbers() {
        for (String number : new String[] {"0", "9", "00", "99", "000", "999", "0000", "9999"}) {
            Check.overlay("score " + number + ";");
        }
        for (String number : new String[] {"00000", "00001", "10000", "99999", "4294967297", "42949672970", "0".repeat(590)}) {
            Check.faulty("score " + number + ";", 1, 6);
            Check.faulty("keys " + number + ";", 1, 5);
            Check.faulty("peer " + number + " 1;", 1, 5);
        }
        Check.overlay("keys 0001;");
        Check.faulty("keys 9999;", 3, 5);
        Check.faulty("keys 0000;", 3, 5);
    }

    /** "overlay = { statement ";" }" and what a statement is made of */
    private static void statements() {
        Check.overlay("");
        Check.faulty(";", 1, 0);
        Check.faulty(TWO + ";", 1, 20);
        String[] whole = {"peer 1 1", "link 0 1 5", "knows 0 1", "score 1", "probe 1 1", "keys 1"};
        for (String statement : whole) {
            Check.overlay(TWO + statement + ";");
            Check.faulty(TWO + statement, 1, 20 + statement.length());
            Check.faulty(TWO + statement + "peer 1 1;", 1, 20 + statement.length());
            Check.faulty(TWO + statement + " 1;", 1, 21 + statement.length());
            String[] parts = statement.split(" ");
            int at = 20 + parts[0].length();
            for (int part = 1; part < parts.length; part++) {
                // A statement that ends before this part, and one with another token in its place.
                String before = TWO + statement.substring(0, at - 20);
                Check.faulty(before, 1, at);
                Check.faulty(before + ";", 1, at);
                Check.faulty(before + " peer;", 1, at + 1);
                Check.faulty(before + " -1;", 1, at + 1);
                at += 1 + parts[part].length();
            }
        }
        Check.faulty("1 1;", 1, 0);
        Check.faulty("first;", 1, 0);
    }

    /** "sum = term { ( "+" | "-" ) term }" and so on */
    private static void sums() {
        for (String sum : new String[] {"0", "first", "second", "load", "capacity", "zones", "(1)", "1+1", "1-1", "1*1", "1/1",
            "(1+1)*(1-1)/((1))", "first+second*load-capacity/zones"}) {
            Check.overlay("score " + sum + ";");
        }
        for (String sign : new String[] {"+", "-", "*", "/"}) {
            Check.faulty("score " + sign + "1;", 1, 6);
            Check.faulty("score 1" + sign + ";", 1, 8);
            Check.faulty("score 1" + sign + sign + "1;", 1, 8);
            Check.faulty("score (1" + sign + ");", 1, 9);
            Check.faulty("score (" + sign + "1);", 1, 7);
            Check.faulty("score 1" + sign, 1, 8);
        }
        Check.faulty("score ;", 1, 6);
        Check.faulty("score ();", 1, 7);
        Check.faulty("score );", 1, 6);
        Check.faulty("score 1);", 1, 7);
        Check.faulty("score (1));", 1, 9);
        Check.faulty("score (1;", 1, 8);
        Check.faulty("score 1(1);", 1, 7);
        Check.faulty("score (1)1;", 1, 9);
        Check.faulty("score first second;", 1, 12);
        Check.faulty("score keys;", 1, 6);
    }

    private static void range(String before, int low, int high, String after) {
        Check.overlay(before + low + after);
        Check.overlay(before + high + after);
        if (low > 0) {
            Check.faulty(before + (low - 1) + after, 3, before.length());
        }
        Check.faulty(before + (high + 1) + after, 3, before.length());
        Check.faulty(before + 9999 + after, 3, before.length());
    }

    /** "capacity 0 to 9, zone 0 to 9, delay 1 to 99, period 1 to 20, need 1 to 9, many 1 to 99" */
    private static void ranges() {
        range("peer ", 0, 9, " 1;");
        range("peer 1 ", 0, 9, ";");
        range(TWO + "link 0 1 ", 1, 99, ";");
        range("probe ", 1, 20, " 1;");
        range("probe 1 ", 1, 9, ";");
        range("keys ", 1, 99, ";");
    }

    /** "a peer is one that was declared before" */
    private static void declaredPeers() {
        Check.faulty("knows 0 1; peer 1 1; peer 1 1;", 3, 6);
        Check.faulty("link 0 1 1; peer 1 1; peer 1 1;", 3, 5);
        for (int peers = 2; peers <= 8; peers++) {
            String before = "peer 1 1;".repeat(peers);
            int last = peers - 1;
            Check.overlay(before + "knows " + last + " 0; knows 0 " + last + "; link " + last + " 0 5; link 0 " + last + " 5;");
            Check.faulty(before + "knows " + peers + " 0;", 3, before.length() + 6);
            Check.faulty(before + "knows 0 " + peers + ";", 3, before.length() + 8);
            Check.faulty(before + "link " + peers + " 0 5;", 3, before.length() + 5);
            Check.faulty(before + "link 0 " + peers + " 5;", 3, before.length() + 7);
            Check.faulty(before + "knows 0 9999;", 3, before.length() + 8);
        }
    }

    /** "Peers are numbered from 0 in the order of the text; there are at most 8." */
    private static void numberedInOrder() {
        StringBuilder text = new StringBuilder();
        for (int peer = 0; peer < 8; peer++) {
            text.append("peer ").append(9 - peer).append(" 1;");
        }
        for (int peer = 0; peer < 8; peer++) {
            int next = (peer + 1) % 8;
            text.append("knows ").append(peer).append(' ').append(next).append(";link ").append(peer).append(' ')
                    .append(next).append(' ').append(peer + 1).append(';');
        }
        PeerOverlay x = Check.overlay(text + "score capacity * 100 + first * 10 + second;");
        Check.same("5: eight", x.peerCount(), 8);
        for (int peer = 0; peer < 8; peer++) {
            int before = (peer + 7) % 8;
            int after = (peer + 1) % 8;
            Check.same("13: peer " + peer, x.relayScore(peer, before, after), (9 - peer) * 100 + (before + 1) * 10 + peer + 1);
        }
    }

    /** "A later link between the same two peers replaces the earlier one" */
    private static void laterLink() {
        Check.same("8: a smaller one", Check.overlay(TWO + "link 0 1 9; link 0 1 3;").delay(0, 1), 3);
        Check.same("8: a larger one", Check.overlay(TWO + "link 0 1 3; link 0 1 9;").delay(1, 0), 9);
        Check.same("8: the other way", Check.overlay(TWO + "link 0 1 3; link 1 0 9;").delay(0, 1), 9);
        PeerOverlay x = Check.overlay(TWO + "link 0 1 3; link 1 0 9; link 0 1 4;");
        Check.same("8: the third", x.delay(1, 0), 4);
        x.setLink(0, 1, false);
        Check.same("8: there is one link alone", x.delay(0, 1), -1);
    }

    /** "a repeated knows has no effect" */
    private static void repeatedKnows() {
        PeerOverlay x = Check.overlay(TWO + "peer 1 1; knows 0 1; knows 1 2; knows 0 1; knows 1 0; knows 1 0;");
        Check.yes("7: they know each other", x.knows(0, 1) && x.knows(1, 0));
        Check.same("28: each is counted once", x.introduce(1, 0, 2), 2);
    }

    /** "Each of score, probe and keys can occur once" */
    private static void oncePerText() {
        PeerOverlay x = new PeerOverlay();
        for (int times = 0; times < 3; times++) {
            Check.same("3: once in each text", Check.parse(x, "score 1; probe 1 1; keys 1;"), 0);
            Check.same("3: in another order", Check.parse(x, "keys 1; score 1; probe 1 1;"), 0);
            Check.same("3: twice in one", Check.parse(x, "keys 1; probe 1 1; keys 1;"), 2);
        }
    }

    /** "without them, the score is "first + second + load * 10", the period is 3, need is 2 and many is 10" */
    private static void withoutThem() {
        String text = "peer 2 1; peer 2 1; peer 2 2; link 0 1 9; link 0 2 40; link 2 1 60; knows 0 1; knows 0 2; knows 1 2;";
        String[] without = {"", "score first + second + load * 10;", "probe 3 2;", "keys 10;"};
        for (String statement : without) {
            PeerOverlay x = Check.overlay(text + statement);
            Check.same("13: without load", x.relayScore(2, 0, 1), 100);
            x.open(0, 1);
            Check.same("13: with a load of 1", x.relayScore(2, 0, 1), 110);
            for (int sent = 0; sent < 21; sent++) {
                x.send(0, sent);
                Check.same("22: many is 10", x.key(0), sent / 10);
            }
            x.run(2);
            Check.same("18: no probe before the third tick", x.successes(0), 0);
            x.run(1);
            Check.same("18: the first", x.successes(0), 1);
            x.run(2);
            Check.same("16: not direct after the fifth", x.path(0), 2);
            x.run(1);
            Check.same("16: direct after the second probe", x.path(0), 100);
        }
    }

    /** "2: the word of a second score, probe or keys." */
    private static void secondOfOne() {
        String[] statements = {"score 1;", "probe 1 1;", "keys 1;"};
        for (String first : statements) {
            for (String second : statements) {
                String text = first + "peer 1 1; " + second;
                if (first.equals(second)) {
                    String word = second.substring(0, second.indexOf(' '));
                    Check.faulty(text, 2, first.length() + 10);
                    Check.faulty(first + word, 2, first.length());
                    Check.faulty(first + word + " ?", 2, first.length());
                    Check.faulty(first + word + " 9999;", 2, first.length());
                } else {
                    Check.overlay(text);
                }
            }
        }
    }

    /** "4: the word of a ninth peer" */
    private static void ninthPeer() {
        Check.overlay(EIGHT);
        Check.overlay(EIGHT + "knows 7 6;");
        Check.faulty(EIGHT + "peer 1 1;", 4, 72);
        Check.faulty(EIGHT + "keys 1; \npeer", 4, 81);
        Check.faulty(EIGHT + "peer 10 10;", 4, 72);
        Check.faulty(EIGHT + "peer?", 4, 72);
        Check.faulty(EIGHT + "peers 1 1;", 1, 72);
    }

    /** "or a "(" while five "(" are open" */
    private static void sixthBracket() {
        Check.overlay("score (((((1)))));");
        Check.overlay("score ((((1)+(2))+(((3))))*4)+(((((5)))));");
        Check.overlay("score " + "(1)+".repeat(20) + "1;");
        Check.faulty("score ((((((1))))));", 4, 11);
        Check.faulty("score ( ( ( ( ( (", 4, 16);
        Check.faulty("score (((((1+(", 4, 13);
        Check.faulty("score (((((1*(2))))));", 4, 13);
        Check.faulty("score (((((1)))))-((((((", 4, 23);
        Check.overlay("score ((((1)+(1))+(1))+(1));");
    }

    /** "5: the second peer of a link or knows is the same as the first." */
    private static void samePeer() {
        for (int peer = 0; peer < 8; peer++) {
            Check.faulty(EIGHT + "knows " + peer + " " + peer + ";", 5, 80);
            Check.faulty(EIGHT + "link " + peer + " " + peer + " 5;", 5, 79);
            Check.faulty(EIGHT + "knows " + peer + " 000" + peer + ";", 5, 80);
            Check.faulty(EIGHT + "link " + peer + " " + peer, 5, 79);
        }
    }

    /** "The error with the smallest position is reported." */
    private static void smallestPosition() {
        String before = EIGHT + "keys 1;";
        String[] faults = {"keys ?;", "keys 1;", "link 0 1 0;", "peer 1 1;", "knows 3 3;"};
        int[] codes = {2, 2, 3, 4, 5};
        int[] places = {0, 0, 9, 0, 8};
        for (int first = 0; first < faults.length; first++) {
            for (String second : faults) {
                Check.faulty(before + faults[first] + second, codes[first], before.length() + places[first]);
            }
            Check.faulty(before + "?" + faults[first], 1, before.length());
            Check.faulty(before + faults[first] + "?", codes[first], before.length() + places[first]);
        }
        Check.faulty("peer 10 10;", 3, 5);
        Check.faulty("probe 0 0;", 3, 6);
        Check.faulty(TWO + "link 2 2 0;", 3, 25);
        Check.faulty(TWO + "link 0 2 0;", 3, 27);
        Check.faulty(TWO + "link 0 0 0;", 5, 27);
    }

    /** "If several codes apply at one position, the smallest is reported." */
    private static void smallestCode() {
        Check.faulty("keys 1; probe keys", 1, 14);
        Check.faulty("score 1; score2 score", 2, 9);
        Check.faulty("peer 1 1 9999;", 1, 9);
        Check.faulty("peer 10000 1;", 1, 5);
        Check.faulty(TWO + "knows 0 00000;", 1, 28);
        Check.faulty("score (((((1(", 1, 12);
        Check.faulty("score (((((first(1))))));", 1, 16);
        Check.faulty(EIGHT + "link peer 1 1;", 1, 77);
        Check.faulty(EIGHT + "keys 1 peer 1 1;", 1, 79);
        Check.faulty("probe 1 1 probe 1 1;", 1, 10);
    }

    /** "if the text ends too early, it is the length of the text" */
    private static void endsTooEarly() {
        String text = "peer 1 2;peer 3 4;link 0 1 5;knows 0 1;score(first+2)*3;probe 4 5;keys 6;";
        for (int length = 0; length < text.length(); length++) {
            boolean between = length == 0 || text.charAt(length - 1) == ';';
            boolean inWord = !between && Character.isLetter(text.charAt(length - 1)) && Character.isLetter(text.charAt(length));
            String cut = text.substring(0, length);
            if (between) {
                Check.overlay(cut);
            } else if (!inWord) {
                Check.faulty(cut, 1, length);
                Check.faulty(cut + " ", 1, length + 1);
                Check.faulty(cut + "\n \n", 1, length + 3);
            } else {
                Check.faulty(cut, 1, startOfWord(text, length));
            }
        }
        PeerOverlay x = new PeerOverlay();
        x.append(0x6b657973, 0x20202031, 0x3b202020, 0x20202020, 0x20202020);
        Check.same("3: keys and three spaces", x.parse(7), 1);
        Check.same("4: the length is that of the call", x.errorPosition(), 7);
    }

    private static int startOfWord(String text, int end) {
        int start = end;
        while (start > 0 && Character.isLetter(text.charAt(start - 1))) {
            start--;
        }
        return start;
    }
}
