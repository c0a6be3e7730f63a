/** All that can be asked of an overlay without a change, in one text; with five peers it takes some 370 calls. */
final class Everything {
    /** A question whose answer may be an exception. */
    private interface Question {
        Object ask();
    }

    private final StringBuilder answers = new StringBuilder();
    private final PeerOverlay overlay;

    private Everything(PeerOverlay overlay) {
        this.overlay = overlay;
    }

    static String of(PeerOverlay overlay) {
        Everything all = new Everything(overlay);
        all.askWhole();
        all.askPeers();
        all.askSessions();
        return all.answers.toString();
    }

    /** Both overlays must answer the same; only the first difference is told. */
    static void same(String what, PeerOverlay got, PeerOverlay due) {
        String[] gotLines = of(got).split("\n");
        String[] dueLines = of(due).split("\n");
        for (int line = 0; line < Math.min(gotLines.length, dueLines.length); line++) {
            if (!gotLines[line].equals(dueLines[line])) {
                Check.report(what + ": " + gotLines[line] + ", due is " + dueLines[line]);
                return;
            }
        }
        Check.same(what + ": the number of answers", gotLines.length, dueLines.length);
    }

    private void askWhole() {
        put("errorPosition", overlay::errorPosition);
        put("peerCount", overlay::peerCount);
        put("tick", overlay::tick);
        put("sessions", overlay::sessions);
    }

    private void askPeers() {
        int peers = overlay.peerCount();
        for (int a = 0; a < peers; a++) {
            int one = a;
            put("load " + a, () -> overlay.load(one));
            for (int b = 0; b < peers; b++) {
                askPair(a, b, peers);
            }
        }
    }

    private void askPair(int a, int b, int peers) {
        String pair = " " + a + " " + b;
        put("knows" + pair, () -> overlay.knows(a, b));
        put("delay" + pair, () -> overlay.delay(a, b));
        put("introductionsNeeded" + pair, () -> overlay.introductionsNeeded(a, b));
        put("introducer" + pair, () -> overlay.introducer(a, b));
        put("bestRelay" + pair, () -> overlay.bestRelay(a, b));
        put("session" + pair, () -> overlay.session(a, b));
        for (int relay = 0; relay < peers; relay++) {
            int third = relay;
            put("relayScore " + relay + pair, () -> overlay.relayScore(third, a, b));
        }
    }

    private void askSessions() {
        for (int number = 0; number < 6; number++) {
            int one = number;
            put("path " + number, () -> overlay.path(one));
            put("oldPath " + number, () -> overlay.oldPath(one));
            put("successes " + number, () -> overlay.successes(one));
            for (int state = 0; state < 4; state++) {
                int asked = state;
                put("messages " + number + " " + state, () -> overlay.messages(one, asked));
            }
            put("lastValue " + number, () -> overlay.lastValue(one));
            put("digest " + number, () -> overlay.digest(one));
            put("key " + number, () -> overlay.key(one));
            put("oldestKey " + number, () -> overlay.oldestKey(one));
            put("keyStart " + number, () -> overlay.keyStart(one));
            put("ticksToDeliver " + number, () -> overlay.ticksToDeliver(one));
            put("ticksToDirect " + number, () -> overlay.ticksToDirect(one));
        }
    }

    private void put(String what, Question question) {
        String answer;
        try {
            answer = String.valueOf(question.ask());
        } catch (RuntimeException thrown) {
            answer = thrown.getClass().getSimpleName();
        }
        answers.append(what).append(": ").append(answer).append('\n');
    }
}
