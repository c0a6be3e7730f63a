/** Promises 33 to 35: undo, saveSnapshot, restoreSnapshot. */
public final class UndoTest {
    private static final String THREE = "peer 1 1; peer 1 1; peer 1 1; link 0 1 5; link 0 2 2; link 2 1 3;"
            + "knows 0 1; knows 0 2; probe 2 1; keys 1;";

    private UndoTest() {
    }

    public static void main(String[] args) {
        tenChanges();
        everyChangeIsUndone();
        refusedCallsAreNoChanges();
        snapshots();
        snapshotsAndUndo();
        wrongSlots();
        Check.finish();
    }

    private static void tenChanges() {
        PeerOverlay x = Check.overlay(THREE);
        for (int times = 0; times < 12; times++) {
            x.run(1);
        }
        for (int left = 9; left >= 0; left--) {
            Check.same("33: left", x.undo(), left);
            Check.same("33: tick", x.tick(), left + 2);
        }
        Check.same("33: no more", x.undo(), -1);
        Check.same("33: nothing happened", x.tick(), 2);
        x.run(5);
        Check.same("33: a new change", x.undo(), 0);
        Check.same("33: tick again", x.tick(), 2);
    }

    private static void everyChangeIsUndone() {
        PeerOverlay x = Check.overlay(THREE);
        x.introduce(0, 1, 2);
        x.open(0, 1);
        x.send(0, 11);
        x.run(5);
        x.send(0, 12);
        x.setLink(0, 1, false);
        x.run(5);
        Check.same("32: two were sent", x.close(0), 2);
        Check.same("33: close", x.undo(), 7);
        Check.same("33: open again", x.sessions(), 1);
        Check.same("33: its digest", x.digest(0), 11 * 31 + 12);
        Check.same("33: run", x.undo(), 6);
        Check.same("33: the message travels", x.messages(0, 1), 1);
        Check.same("33: the last value", x.lastValue(0), 11);
        Check.same("33: setLink", x.undo(), 5);
        Check.same("33: the link is up", x.delay(0, 1), 5);
        Check.same("33: direct", x.path(0), 100);
        Check.same("33: its message travels there", x.ticksToDeliver(0), 5);
        Check.same("33: send", x.undo(), 4);
        Check.same("33: no message", x.messages(0, 1), 0);
        Check.same("33: the next number", x.keyStart(0), 1);
        Check.same("33: run", x.undo(), 3);
        Check.same("33: the relay", x.path(0), 2);
        Check.same("33: tick", x.tick(), 0);
        Check.badState("33: nothing delivered", () -> x.lastValue(0));
        Check.same("33: send", x.undo(), 2);
        Check.same("33: open", x.undo(), 1);
        Check.same("33: no sessions", x.sessions(), 0);
        Check.same("33: introduce", x.undo(), 0);
        Check.no("33: they don't know each other", x.knows(1, 2));
        Check.same("33: the end", x.undo(), -1);
    }

    private static void refusedCallsAreNoChanges() {
        PeerOverlay x = Check.overlay(THREE);
        x.open(0, 1);
        Check.badArgument("27", () -> x.run(0));
        Check.badState("28", () -> x.introduce(1, 0, 2));
        Check.badState("29", () -> x.open(0, 1));
        Check.outside("30", () -> x.send(1, 0));
        Check.badState("31", () -> x.setLink(0, 1, true));
        Check.outside("32", () -> x.close(1));
        Check.same("33: only one change", x.undo(), 0);
        Check.same("33: no session", x.sessions(), 0);
    }

    private static void snapshots() {
        PeerOverlay x = Check.overlay(THREE);
        x.introduce(0, 1, 2);
        x.open(0, 1);
        x.send(0, 3);
        x.run(2);
        Check.no("34: an earlier one", x.saveSnapshot(0));
        x.run(10);
        x.setLink(0, 1, false);
        Check.no("34: in the other slot", x.saveSnapshot(1));
        x.close(0);
        Check.same("35: the tick then", x.restoreSnapshot(0), 2);
        Check.same("35: sessions", x.sessions(), 1);
        Check.same("35: the old path", x.oldPath(0), 2);
        Check.same("35: links", x.delay(0, 1), 5);
        Check.yes("35: knowing", x.knows(1, 2));
        Check.same("35: history is cleared", x.undo(), -1);
        Check.same("35: the message", x.ticksToDeliver(0), 3);
        x.run(20);
        Check.same("35: it stays stored", x.restoreSnapshot(0), 2);
        Check.same("35: the other slot", x.restoreSnapshot(1), 12);
        Check.same("35: the link is down", x.delay(0, 1), -1);
        Check.yes("34: in place of an earlier one", x.saveSnapshot(0));
        Check.same("35: the newer one", x.restoreSnapshot(0), 12);
    }

    private static void snapshotsAndUndo() {
        PeerOverlay x = Check.overlay(THREE);
        x.run(1);
        x.saveSnapshot(1);
        x.run(1);
        Check.same("34: no change", x.undo(), 1);
        Check.same("33: before the run", x.tick(), 1);
        Check.same("33: the first", x.undo(), 0);
        Check.yes("34: undo keeps the slots", x.saveSnapshot(1));
        Check.same("35: saved in tick 0", x.restoreSnapshot(1), 0);
        x.run(3);
        Check.badState("35: the empty slot", () -> x.restoreSnapshot(0));
        Check.same("35: a refused call clears nothing", x.undo(), 0);
    }

    private static void wrongSlots() {
        PeerOverlay x = Check.overlay(THREE);
        for (int bad : new int[] {-1, 2, Integer.MIN_VALUE, Integer.MAX_VALUE}) {
            Check.outside("34: slot " + bad, () -> x.saveSnapshot(bad));
            Check.outside("35: slot " + bad, () -> x.restoreSnapshot(bad));
        }
        Check.badState("35: empty", () -> x.restoreSnapshot(0));
        Check.badState("35: empty", () -> x.restoreSnapshot(1));
    }
}
