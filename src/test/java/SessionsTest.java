/** Promises 14 to 18, 29 and 32: sessions, session, path, oldPath, successes, open, close. */
public final class SessionsTest {
    /** Between 0 and 1 the relay 3 takes 2 + 3, the relay 2 20 + 30, the direct link 10. */
    private static final String FOUR = "peer 0 1; peer 0 1; peer 1 1; peer 1 1;"
            + "link 0 1 10; link 0 3 2; link 3 1 3; link 0 2 20; link 2 1 30;"
            + "knows 0 1; knows 0 2; knows 0 3; knows 1 2; knows 1 3;";

    private SessionsTest() {
    }

    public static void main(String[] args) {
        openingAndClosing();
        lowestFreeNumber();
        openRefuses();
        closeRefuses();
        pathsAndOldPaths();
        oldPathIsReplaced();
        oldPathStaysWithoutRelay();
        successCounts();
        wrongSessions();
        Check.finish();
    }

    private static void openingAndClosing() {
        PeerOverlay x = Check.overlay(FOUR);
        Check.same("14: none", x.sessions(), 0);
        Check.same("15: none", x.session(0, 1), -1);
        Check.same("29: the first", x.open(0, 1), 0);
        Check.same("29: over the best relay", x.path(0), 3);
        Check.same("29: the way back is another", x.open(1, 0), 1);
        Check.same("29: over the next best", x.path(1), 2);
        Check.same("29: no relay", x.open(2, 0), 2);
        Check.same("16: no path", x.path(2), -1);
        Check.same("14: three", x.sessions(), 7);
        Check.same("15: there", x.session(0, 1), 0);
        Check.same("15: and back", x.session(1, 0), 1);
        Check.same("17: no old path", x.oldPath(0), -1);
        Check.same("18: no successes", x.successes(0), 0);
        Check.same("32: nothing was sent", x.close(1), 0);
        Check.same("14: two", x.sessions(), 5);
        Check.same("15: closed", x.session(1, 0), -1);
        Check.same("32: its load is gone", x.load(2), 0);
        Check.outside("32: it is closed", () -> x.close(1));
    }

    private static void lowestFreeNumber() {
        PeerOverlay x = Check.overlay("peer 1 1;".repeat(8) + "knows 0 1; knows 0 2; knows 0 3; knows 0 4; knows 0 5; knows 0 6; knows 0 7;");
        for (int number = 0; number < 6; number++) {
            Check.same("29: number " + number, x.open(0, number + 1), number);
        }
        Check.same("14: six", x.sessions(), 63);
        Check.badState("29: a seventh", () -> x.open(0, 7));
        x.close(4);
        x.close(2);
        Check.same("29: the lowest free", x.open(0, 7), 2);
        Check.same("29: then the next", x.open(1, 0), 4);
        Check.badState("29: full again", () -> x.open(2, 0));
        x.close(0);
        x.send(2, 9);
        Check.same("29: a number used again", x.open(0, 1), 0);
        Check.same("29: all anew", x.send(0, 5), 0);
    }

    private static void openRefuses() {
        PeerOverlay x = Check.overlay(FOUR);
        Check.badState("29: they don't know each other", () -> x.open(2, 3));
        x.open(0, 1);
        Check.badState("29: there is one", () -> x.open(0, 1));
        Check.badArgument("29: the same", () -> x.open(1, 1));
        for (int bad : new int[] {-1, 4, Integer.MIN_VALUE, Integer.MAX_VALUE}) {
            Check.outside("29: sender " + bad, () -> x.open(bad, bad));
            Check.outside("29: receiver " + bad, () -> x.open(0, bad));
            Check.outside("15: sender " + bad, () -> x.session(bad, bad));
            Check.outside("15: receiver " + bad, () -> x.session(0, bad));
        }
        Check.badArgument("15: the same", () -> x.session(0, 0));
        Check.same("29: a refused call is no change", x.undo(), 0);
    }

    private static void closeRefuses() {
        PeerOverlay x = Check.overlay(FOUR);
        x.open(0, 1);
        x.send(0, 1);
        x.send(0, 2);
        Check.badState("32: two travel", () -> x.close(0));
        x.run(4);
        Check.badState("32: they still do", () -> x.close(0));
        x.run(1);
        Check.same("32: both are delivered", x.close(0), 2);
        Check.same("32: no load any more", x.load(3), 0);
        x.open(2, 0);
        x.send(0, 1);
        Check.badState("32: one waits", () -> x.close(0));
    }

    private static void pathsAndOldPaths() {
        PeerOverlay x = Check.overlay(FOUR + "probe 2 1;");
        x.open(0, 1);
        x.send(0, 7);
        x.run(1);
        Check.same("16: the relay", x.path(0), 3);
        x.run(1);
        Check.same("16: direct", x.path(0), 100);
        Check.same("17: the relay before", x.oldPath(0), 3);
        x.run(2);
        Check.same("17: it is not empty", x.oldPath(0), 3);
        x.run(1);
        Check.same("17: it is empty", x.oldPath(0), -1);
        x.send(0, 8);
        x.run(9);
        Check.same("16: along the direct path", x.messages(0, 3), 1);
        x.run(1);
        Check.same("16: after its delay", x.messages(0, 3), 2);
        PeerOverlay idle = Check.overlay(FOUR + "probe 2 1;");
        idle.open(0, 1);
        idle.run(2);
        Check.same("17: empty at once", idle.oldPath(0), -1);
    }

    private static void oldPathIsReplaced() {
        PeerOverlay x = Check.overlay(FOUR + "probe 1 1; score 0 - first;");
        x.open(0, 1);
        Check.same("16: the far relay first", x.path(0), 2);
        x.send(0, 1);
        x.run(1);
        x.setLink(0, 1, false);
        Check.same("16: its own old path fills it", x.path(0), 3);
        Check.same("17: which is kept", x.oldPath(0), 2);
        x.send(0, 2);
        x.setLink(0, 1, true);
        x.run(1);
        Check.same("17: replaced", x.oldPath(0), 3);
        Check.same("11: no load of the earlier one", x.load(2), 0);
        Check.same("19: both travel", x.messages(0, 1), 2);
        x.run(4);
        Check.same("17: the later one is empty", x.oldPath(0), -1);
        Check.same("19: kept", x.messages(0, 2), 1);
        Check.same("31: the other still travels there", x.setLink(0, 2, false), 1);
    }

    private static void oldPathStaysWithoutRelay() {
        PeerOverlay x = Check.overlay("peer 9 1; peer 9 1; peer 1 1; link 0 1 10; link 0 2 40; link 2 1 40;"
                + "knows 0 1; knows 0 2; knows 1 2; probe 2 1;");
        x.open(0, 1);
        x.send(0, 1);
        x.run(2);
        x.setLink(0, 1, false);
        Check.same("16: no path", x.path(0), -1);
        Check.same("17: an old one", x.oldPath(0), 2);
        x.run(1);
        Check.same("16: the old path fills the only relay", x.path(0), -1);
        x.setLink(0, 1, true);
        x.run(1);
        Check.same("16: direct from none", x.path(0), 100);
        Check.same("17: the earlier one stays", x.oldPath(0), 2);
        x.run(76);
        Check.same("17: until it is empty", x.oldPath(0), -1);
        Check.same("19: delivered", x.messages(0, 3), 1);
    }

    private static void successCounts() {
        PeerOverlay x = Check.overlay(FOUR + "probe 2 3;");
        x.run(1);
        x.open(0, 1);
        x.run(1);
        Check.same("18: the period counts from the opening", x.successes(0), 0);
        x.run(1);
        Check.same("18: one", x.successes(0), 1);
        x.run(2);
        Check.same("18: two", x.successes(0), 2);
        x.setLink(0, 1, false);
        Check.same("18: the path does not use it", x.successes(0), 2);
        x.run(2);
        Check.same("18: a failed probe", x.successes(0), 0);
        x.setLink(0, 1, true);
        x.run(4);
        Check.same("18: two again", x.successes(0), 2);
        x.setLink(0, 3, false);
        Check.same("18: the path changed", x.successes(0), 0);
        Check.same("16: to the other relay", x.path(0), 2);
        x.run(5);
        Check.same("16: not yet", x.path(0), 2);
        x.run(1);
        Check.same("16: direct", x.path(0), 100);
        Check.same("18: 0 after the upgrade", x.successes(0), 0);
        x.run(6);
        Check.same("18: no probes on a direct path", x.successes(0), 0);
    }

    private static void wrongSessions() {
        PeerOverlay x = Check.overlay(FOUR);
        x.open(0, 1);
        for (int bad : new int[] {-1, 1, 5, 6, Integer.MIN_VALUE, Integer.MAX_VALUE}) {
            Check.outside("16: path " + bad, () -> x.path(bad));
            Check.outside("17: oldPath " + bad, () -> x.oldPath(bad));
            Check.outside("18: successes " + bad, () -> x.successes(bad));
            Check.outside("19: messages " + bad, () -> x.messages(bad, 7));
            Check.outside("20: lastValue " + bad, () -> x.lastValue(bad));
            Check.outside("21: digest " + bad, () -> x.digest(bad));
            Check.outside("22: key " + bad, () -> x.key(bad));
            Check.outside("23: oldestKey " + bad, () -> x.oldestKey(bad));
            Check.outside("24: keyStart " + bad, () -> x.keyStart(bad));
            Check.outside("25: ticksToDeliver " + bad, () -> x.ticksToDeliver(bad));
            Check.outside("26: ticksToDirect " + bad, () -> x.ticksToDirect(bad));
            Check.outside("30: send " + bad, () -> x.send(bad, 0));
            Check.outside("32: close " + bad, () -> x.close(bad));
        }
    }
}
