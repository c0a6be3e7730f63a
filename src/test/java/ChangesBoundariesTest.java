/** CHANGES and promises 33 to 35: a test of its own for each sentence that names a boundary case. */
public final class ChangesBoundariesTest {
    private static final int STEPS = 24;
    private static final String FIVE = "peer 1 1; peer 2 2; peer 2 1; peer 1 3; peer 1 1; link 0 1 9; link 0 2 3; link 2 1 4;"
            + "link 0 3 5; link 3 1 6; link 2 3 2; knows 0 1; knows 0 2; knows 1 2; knows 0 3; probe 2 2; keys 2;";

    private ChangesBoundariesTest() {
    }

    public static void main(String[] args) {
        nothingToUndo();
        latestTen();
        eachStepBack();
        messagesAreTheSame();
        undoneAreGone();
        undoIsNoChange();
        everyChangeCounts();
        queriesAreNoChanges();
        upAndDownIsUndone();
        slotNumbers();
        earlierOne();
        slotsAreApart();
        snapshotHoldsEverything();
        staysStored();
        restoreClearsHistory();
        emptySlot();
        undoKeepsSlots();
        snapshotOfANewObject();
        Check.finish();
    }

    /** One of many different changes; step after step they come to all kinds of situations. */
    private static void step(PeerOverlay x, int step) {
        switch (step) {
            case 0 -> x.open(0, 1);
            case 1 -> x.send(0, 11);
            case 2 -> x.introduce(0, 1, 3);
            case 3 -> x.open(1, 0);
            case 4 -> x.send(1, 12);
            case 5 -> x.run(1);
            case 6 -> x.send(0, 13);
            case 7 -> x.run(3);
            case 8 -> x.setLink(0, 1, false);
            case 9 -> x.send(0, 14);
            case 10 -> x.send(1, 15);
            case 11 -> x.setLink(0, 2, false);
            case 12 -> x.run(2);
            case 13 -> x.setLink(0, 1, true);
            case 14 -> x.open(0, 3);
            case 15 -> x.send(2, 16);
            case 16 -> x.run(5);
            case 17 -> x.introduce(0, 2, 3);
            case 18 -> x.setLink(2, 0, true);
            case 19 -> x.run(30);
            case 20 -> x.close(1);
            case 21 -> x.open(2, 3);
            case 22 -> x.send(1, 17);
            default -> x.run(1);
        }
    }

    private static PeerOverlay after(int steps) {
        PeerOverlay x = Check.overlay(FIVE);
        for (int step = 0; step < steps; step++) {
            step(x, step);
        }
        return x;
    }

    /** "NONE if there was none to undo" */
    private static void nothingToUndo() {
        PeerOverlay x = new PeerOverlay();
        Check.same("33: of a new object", x.undo(), PeerOverlay.NONE);
        Check.same("33: again", x.undo(), -1);
        Check.same("3: a parse", Check.parse(x, FIVE), 0);
        Check.same("33: a parse is no change", x.undo(), -1);
        Everything.same("33: nothing happens", x, Check.overlay(FIVE));
        x.run(1);
        Check.same("33: one change", x.undo(), 0);
        Check.same("33: no more", x.undo(), -1);
    }

    /** "The latest 10 changes can be undone, the latest first." */
    private static void latestTen() {
        for (int changes = 1; changes <= 25; changes++) {
            PeerOverlay x = new PeerOverlay();
            for (int done = 0; done < changes; done++) {
                x.run(done + 1);
            }
            int tick = x.tick();
            for (int back = 1; back <= Math.min(changes, 10); back++) {
                Check.same("33: left of " + changes, x.undo(), Math.min(changes, 10) - back);
                tick -= changes - back + 1;
                Check.same("33: the latest first", x.tick(), tick);
            }
            Check.same("33: an eleventh, or one before all", x.undo(), -1);
            Check.same("33: it changes nothing", x.tick(), tick);
        }
    }

    /** "Undoes the latest change that has not been undone.", for each kind of change */
    private static void eachStepBack() {
        for (int steps = 1; steps <= STEPS; steps++) {
            PeerOverlay x = after(steps);
            Check.same("33: left after step " + steps, x.undo(), Math.min(steps, 10) - 1);
            Everything.same("33: step " + steps + " is undone", x, after(steps - 1));
            PeerOverlay on = after(steps);
            on.undo();
            goesOnAs("33: after step " + steps + " was undone", on, after(steps - 1));
        }
        for (int back = 2; back <= 10; back++) {
            PeerOverlay x = after(STEPS);
            for (int done = 1; done <= back; done++) {
                Check.same("33: left", x.undo(), 10 - done);
            }
            Everything.same("33: " + back + " steps back", x, after(STEPS - back));
        }
    }

    /** What is not seen at once, such as the values and keys of messages that travel, is seen when they are delivered. */
    private static void goesOnAs(String what, PeerOverlay x, PeerOverlay due) {
        for (int times = 0; times < 12; times++) {
            Check.same(what + ": delivered", x.run(4), due.run(4));
            for (int session = 0; session < 6; session++) {
                if ((due.sessions() >> session & 1) != 0) {
                    Check.same(what + ": digest", x.digest(session), due.digest(session));
                    Check.same(what + ": oldestKey", x.oldestKey(session), due.oldestKey(session));
                }
            }
        }
    }

    /** Keys and values of messages come back, though others stood in their places since. */
    private static void messagesAreTheSame() {
        for (int way = 0; way < 2; way++) {
            PeerOverlay x = Check.overlay("peer 1 1; peer 1 1; link 0 1 3; knows 0 1; probe 1 1; keys 2;");
            x.open(0, 1);
            x.run(1);
            x.send(0, 7);
            x.run(3);
            // Another path, another key: in the later session the second message has key 0.
            x.setLink(0, 1, false);
            x.setLink(0, 1, true);
            x.run(1);
            x.send(0, 8);
            x.send(0, 9);
            x.saveSnapshot(0);
            x.run(3);
            x.close(0);
            x.open(1, 0);
            x.run(1);
            x.send(0, 70);
            x.send(0, 80);
            x.send(0, 90);
            if (way == 0) {
                Check.same("35: the tick", x.restoreSnapshot(0), 5);
            } else {
                for (int left = 9; left > 2; left--) {
                    Check.same("33: left", x.undo(), left);
                }
            }
            Check.same("23: the key of the second", x.oldestKey(0), 1);
            Check.same("27: both", x.run(3), 2);
            Check.same("21: their values", x.digest(0), (7 * 31 + 8) * 31 + 9);
        }
    }

    /** A change after undo takes the place of what was undone. */
    private static void undoneAreGone() {
        PeerOverlay x = new PeerOverlay();
        for (int done = 0; done < 10; done++) {
            x.run(1);
        }
        x.undo();
        x.undo();
        x.undo();
        x.run(50);
        Check.same("6: 7 + 50", x.tick(), 57);
        for (int left = 7; left >= 0; left--) {
            Check.same("33: left", x.undo(), left);
            Check.same("6: tick", x.tick(), left);
        }
        Check.same("33: no more", x.undo(), -1);
        PeerOverlay wrapped = new PeerOverlay();
        for (int done = 0; done < 15; done++) {
            wrapped.run(1);
        }
        for (int back = 0; back < 10; back++) {
            wrapped.undo();
        }
        Check.same("6: five are left", wrapped.tick(), 5);
        for (int done = 0; done < 12; done++) {
            wrapped.run(10);
        }
        for (int left = 9; left >= 0; left--) {
            Check.same("33: ten again", wrapped.undo(), left);
            Check.same("6: tick", wrapped.tick(), 5 + (left + 2) * 10);
        }
        Check.same("33: no more", wrapped.undo(), -1);
    }

    /** undo, saveSnapshot and restoreSnapshot are not among "the methods from run to close". */
    private static void undoIsNoChange() {
        PeerOverlay x = after(5);
        Check.same("33: left", x.undo(), 4);
        x.saveSnapshot(0);
        Check.same("33: undo and saveSnapshot are no changes", x.undo(), 3);
        Everything.same("33: two steps back", x, after(3));
    }

    /** "The methods from run to close are changes if they succeed." */
    private static void everyChangeCounts() {
        PeerOverlay x = Check.overlay(FIVE);
        x.run(1);
        x.introduce(0, 1, 3);
        x.open(0, 1);
        x.send(0, 1);
        x.run(30);
        x.setLink(0, 1, false);
        x.setLink(0, 1, true);
        x.close(0);
        for (int left = 7; left >= 0; left--) {
            Check.same("33: each is a change", x.undo(), left);
        }
        Check.same("33: no more", x.undo(), -1);
        Everything.same("33: as at first", x, Check.overlay(FIVE));
    }

    /** Questions, predictions and the input buffer don't touch the history. */
    private static void queriesAreNoChanges() {
        PeerOverlay x = after(4);
        Everything.of(x);
        x.append(1, 2, 3, 4, 5);
        Check.same("33: four changes", x.undo(), 3);
        Check.same("2: undo keeps the buffer", x.append(1, 2, 3, 4, 5), 40);
        x.saveSnapshot(0);
        x.restoreSnapshot(0);
        Check.same("2: so does restoreSnapshot", x.append(1, 2, 3, 4, 5), 60);
    }

    /** A link that is taken down and up is not as before: undo gives the very messages back. */
    private static void upAndDownIsUndone() {
        PeerOverlay x = after(7);
        x.setLink(0, 2, false);
        x.setLink(0, 2, true);
        x.undo();
        x.undo();
        Everything.same("33: both are undone", x, after(7));
    }

    /** "slot: 0 or 1"; "IndexOutOfBoundsException if there is no such slot" */
    private static void slotNumbers() {
        PeerOverlay x = after(9);
        for (int bad : new int[] {-1, 2, 3, 10, Integer.MIN_VALUE, Integer.MAX_VALUE}) {
            Check.outside("34: slot " + bad, () -> x.saveSnapshot(bad));
            Check.outside("35: slot " + bad, () -> x.restoreSnapshot(bad));
        }
        Check.no("34: slot 0", x.saveSnapshot(0));
        Check.no("34: slot 1", x.saveSnapshot(1));
        for (int bad : new int[] {-1, 2, Integer.MIN_VALUE, Integer.MAX_VALUE}) {
            Check.outside("35: slot " + bad + " when both are full", () -> x.restoreSnapshot(bad));
        }
        Everything.same("34 and 35: nothing happened", x, after(9));
    }

    /** "Returns whether there was an earlier one." */
    private static void earlierOne() {
        for (int slot = 0; slot < 2; slot++) {
            PeerOverlay x = Check.overlay(FIVE);
            Check.no("34: none", x.saveSnapshot(slot));
            Check.yes("34: one", x.saveSnapshot(slot));
            Check.no("34: none in the other", x.saveSnapshot(1 - slot));
            x.restoreSnapshot(slot);
            Check.yes("34: it stays after a restore", x.saveSnapshot(slot));
            x.run(1);
            x.undo();
            Check.yes("34: and after an undo", x.saveSnapshot(slot));
            Check.same("3: an error", Check.parse(x, "?"), 1);
            Check.yes("34: and after a parse error", x.saveSnapshot(slot));
            Check.same("3: a success", Check.parse(x, FIVE), 0);
            Check.no("34: but not after a parse", x.saveSnapshot(slot));
            Check.no("34: nor in the other", x.saveSnapshot(1 - slot));
        }
    }

    /** "Saves a snapshot in a slot, in place of an earlier one." */
    private static void slotsAreApart() {
        PeerOverlay x = new PeerOverlay();
        x.run(3);
        x.saveSnapshot(0);
        x.run(4);
        x.saveSnapshot(1);
        x.run(5);
        Check.same("35: slot 0", x.restoreSnapshot(0), 3);
        Check.same("35: slot 1", x.restoreSnapshot(1), 7);
        x.run(10);
        x.saveSnapshot(0);
        Check.same("35: slot 1 stays", x.restoreSnapshot(1), 7);
        Check.same("35: slot 0 is the later one", x.restoreSnapshot(0), 17);
    }

    /** "a snapshot holds everything that changes can change" */
    private static void snapshotHoldsEverything() {
        for (int steps = 0; steps <= STEPS; steps++) {
            PeerOverlay x = after(steps);
            x.saveSnapshot(steps % 2);
            for (int step = steps; step < STEPS; step++) {
                step(x, step);
            }
            x.run(100);
            x.setLink(2, 3, false);
            PeerOverlay due = after(steps);
            Check.same("35: the number of the tick then", x.restoreSnapshot(steps % 2), due.tick());
            Everything.same("35: as after step " + steps, x, due);
            x.restoreSnapshot(steps % 2);
            goesOnAs("35: after step " + steps, x, after(steps));
        }
    }

    /** "Restores the snapshot of a slot, which stays stored." */
    private static void staysStored() {
        PeerOverlay x = after(10);
        x.saveSnapshot(1);
        for (int times = 0; times < 3; times++) {
            x.run(7);
            x.send(0, 99);
            x.setLink(0, 3, false);
            x.introduce(1, 2, 3);
            Check.same("35: again", x.restoreSnapshot(1), 4);
        }
        Everything.same("35: the same each time", x, after(10));
    }

    /** "The undo history is cleared." */
    private static void restoreClearsHistory() {
        PeerOverlay x = after(12);
        x.saveSnapshot(0);
        x.restoreSnapshot(0);
        Check.same("33: nothing to undo", x.undo(), -1);
        step(x, 12);
        Check.same("33: one change since", x.undo(), 0);
        Check.same("33: no more", x.undo(), -1);
        Everything.same("33: as restored", x, after(12));
    }

    /** "IllegalStateException if the slot is empty" */
    private static void emptySlot() {
        PeerOverlay x = after(6);
        Check.badState("35: slot 0", () -> x.restoreSnapshot(0));
        Check.badState("35: slot 1", () -> x.restoreSnapshot(1));
        x.saveSnapshot(1);
        Check.badState("35: still slot 0", () -> x.restoreSnapshot(0));
        Check.same("33: the history is not cleared by it", x.undo(), 5);
    }

    /** A snapshot is no part of what undo takes back. */
    private static void undoKeepsSlots() {
        PeerOverlay x = after(8);
        x.saveSnapshot(0);
        for (int back = 0; back < 8; back++) {
            x.undo();
        }
        Everything.same("33: at the start", x, after(0));
        Check.same("35: the snapshot is there", x.restoreSnapshot(0), 4);
    }

    /** Without peers, too, there are changes and snapshots. */
    private static void snapshotOfANewObject() {
        PeerOverlay x = new PeerOverlay();
        x.run(300);
        Check.no("34: none", x.saveSnapshot(1));
        x.run(1);
        Check.same("35: tick 300", x.restoreSnapshot(1), 300);
        Check.same("33: cleared", x.undo(), -1);
    }
}
