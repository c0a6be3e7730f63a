/** TICKS and promises 6 and 25 to 27: a test of its own for each sentence that names a boundary case. */
public final class TimeBoundariesTest {
    private static final String TRIANGLE = "peer 1 1; peer 1 1; peer 1 1; link 0 1 5; link 0 2 20; link 2 1 10;"
            + "knows 0 1; knows 0 2; knows 1 2;";

    private TimeBoundariesTest() {
    }

    public static void main(String[] args) {
        tickAtFirst();
        runRange();
        lastTick();
        rangeBeforeLastTick();
        oneByOneOrAtOnce();
        countsOfAllSessions();
        nothingToDeliver();
        deliverWithin300();
        deliverNever();
        directNow();
        directWithin300();
        directNever();
        predictionsWithOthers();
        predictionsChangeNothing();
        predictionsAtTheLastTick();
        Check.finish();
    }

    /** "The number of the tick is 0 at first" */
    private static void tickAtFirst() {
        PeerOverlay x = new PeerOverlay();
        Check.same("6: of a new object", x.tick(), 0);
        x.run(1);
        Check.same("6: after one", x.tick(), 1);
        Check.same("3: a parse", Check.parse(x, TRIANGLE), 0);
        Check.same("6: after a parse", x.tick(), 0);
        x.open(0, 1);
        x.send(0, 1);
        x.setLink(0, 1, false);
        x.ticksToDeliver(0);
        Check.same("6: only run lets time pass", x.tick(), 0);
    }

    /** "ticks: 1 to 300"; "IllegalArgumentException if ticks is out of range" */
    private static void runRange() {
        for (int bad : new int[] {0, -1, 301, 9999, 10000, Integer.MIN_VALUE, Integer.MAX_VALUE}) {
            PeerOverlay x = Check.overlay(TRIANGLE);
            Check.badArgument("27: run " + bad, () -> x.run(bad));
            Check.same("6: none passed", x.tick(), 0);
            Check.same("33: no change", x.undo(), -1);
        }
        PeerOverlay x = Check.overlay(TRIANGLE);
        Check.same("27: the smallest", x.run(1), 0);
        Check.same("27: the largest", x.run(300), 0);
        Check.same("6: all passed", x.tick(), 301);
        Check.same("33: two changes", x.undo(), 1);
    }

    private static PeerOverlay at(int tick) {
        PeerOverlay x = new PeerOverlay();
        for (int passed = 0; passed < tick; passed += 300) {
            x.run(Math.min(300, tick - passed));
        }
        Check.same("6: the tick", x.tick(), tick);
        return x;
    }

    /** "at most 9999"; "IllegalStateException if the number of the tick would exceed 9999" */
    private static void lastTick() {
        PeerOverlay x = at(9998);
        Check.badState("27: 10000", () -> x.run(2));
        Check.same("6: none passed, not even one", x.tick(), 9998);
        Check.same("27: 9999", x.run(1), 0);
        Check.same("6: the last", x.tick(), 9999);
        Check.badState("27: not one more", () -> x.run(1));
        Check.badState("27: nor 300", () -> x.run(300));
        Check.same("6: it stays", x.tick(), 9999);
        PeerOverlay y = at(9699);
        Check.same("27: 300 up to the last", y.run(300), 0);
        Check.same("6: the last", y.tick(), 9999);
        PeerOverlay z = at(9700);
        Check.badState("27: 300 are one too many", () -> z.run(300));
        Check.same("27: 299 up to the last", z.run(299), 0);
    }

    /** "(checked first)" */
    private static void rangeBeforeLastTick() {
        PeerOverlay x = at(9999);
        for (int bad : new int[] {0, -1, 301, Integer.MIN_VALUE, Integer.MAX_VALUE}) {
            Check.badArgument("27: run " + bad, () -> x.run(bad));
        }
    }

    private static PeerOverlay busy() {
        PeerOverlay x = Check.overlay(TRIANGLE + "probe 4 2; keys 2;");
        x.open(0, 1);
        x.open(1, 0);
        for (int value = 0; value < 5; value++) {
            x.send(0, value);
            x.send(1, value);
        }
        return x;
    }

    /** Ticks that are done at once are done one by one. */
    private static void oneByOneOrAtOnce() {
        for (int ticks = 1; ticks <= 60; ticks++) {
            PeerOverlay atOnce = busy();
            int delivered = atOnce.run(ticks);
            PeerOverlay oneByOne = busy();
            int sum = 0;
            for (int passed = 0; passed < ticks; passed++) {
                sum += oneByOne.run(1);
            }
            Check.same("27: delivered in " + ticks, delivered, sum);
            Everything.same("27: after " + ticks, atOnce, oneByOne);
        }
    }

    /** "Returns the number of messages of all sessions that were delivered in them." */
    private static void countsOfAllSessions() {
        PeerOverlay x = busy();
        int before = x.run(12);
        Check.same("27: those of the second, which had to wait for the direct path", before, 0);
        Check.same("27: in tick 13", x.run(1), 5);
        Check.same("27: those of the first in tick 30", x.run(17), 5);
        Check.same("27: none is left", x.run(300), 0);
        PeerOverlay y = busy();
        Check.same("27: all in one run", y.run(300), 10);
        Check.same("27: none twice", y.run(300), 0);
        Check.same("27: without sessions", new PeerOverlay().run(300), 0);
    }

    /** "Returns 0 to 300": 0 if there is nothing to deliver */
    private static void nothingToDeliver() {
        PeerOverlay x = Check.overlay(TRIANGLE + "probe 2 1;");
        x.open(0, 1);
        Check.same("25: none was sent", x.ticksToDeliver(0), 0);
        x.send(0, 1);
        Check.same("25: 30 ticks", x.ticksToDeliver(0), 30);
        x.run(29);
        Check.same("25: one tick", x.ticksToDeliver(0), 1);
        x.run(1);
        Check.same("25: all are delivered", x.ticksToDeliver(0), 0);
    }

    /** A session that takes the only relay in tick 163, after the other has left it; its message needs 99 and the delay. */
    private static PeerOverlay waitsFor(int delay) {
        PeerOverlay x = Check.overlay("peer 1 1; peer 1 1; peer 1 1; peer 1 1; link 0 1 99; link 0 2 99; link 2 1 9;"
                + "link 3 2 " + delay + "; knows 0 1; knows 0 2; knows 1 2; knows 0 3; knows 2 3; probe 18 9;");
        x.open(0, 1);
        x.open(0, 3);
        x.send(1, 1);
        return x;
    }

    /** "NONE if they will not be delivered within 300 ticks" */
    private static void deliverWithin300() {
        Check.same("25: 299", waitsFor(37).ticksToDeliver(1), 299);
        Check.same("25: 300", waitsFor(38).ticksToDeliver(1), 300);
        Check.same("25: 301", waitsFor(39).ticksToDeliver(1), PeerOverlay.NONE);
        PeerOverlay x = waitsFor(38);
        Check.same("27: not in 299", x.run(299), 0);
        Check.same("27: in 300", x.run(1), 1);
        PeerOverlay y = waitsFor(39);
        y.run(1);
        Check.same("25: one tick later it can be said", y.ticksToDeliver(1), 300);
    }

    private static void deliverNever() {
        PeerOverlay x = Check.overlay("peer 1 1; peer 1 1; knows 0 1;");
        x.open(0, 1);
        x.send(0, 1);
        Check.same("25: it waits for ever", x.ticksToDeliver(0), -1);
        PeerOverlay y = Check.overlay(TRIANGLE + "probe 2 1;");
        y.open(0, 1);
        y.send(0, 1);
        y.run(2);
        y.setLink(0, 1, false);
        y.send(0, 2);
        Check.same("25: the first arrives and frees the relay", y.ticksToDeliver(0), 28 + 1 + 30);
    }

    /** "after how many ticks the path of a session will be direct": 0 if it is */
    private static void directNow() {
        PeerOverlay x = Check.overlay(TRIANGLE + "probe 2 1;");
        x.open(0, 1);
        Check.same("26: two", x.ticksToDirect(0), 2);
        x.run(1);
        Check.same("26: one", x.ticksToDirect(0), 1);
        x.run(1);
        Check.same("26: it is", x.ticksToDirect(0), 0);
        x.run(1);
        Check.same("26: it stays", x.ticksToDirect(0), 0);
        x.setLink(0, 1, false);
        x.setLink(0, 1, true);
        Check.same("26: the next probe", x.ticksToDirect(0), 1);
    }

    /** The longest time to a direct path: nine probes, one in twenty ticks */
    private static void directWithin300() {
        PeerOverlay x = Check.overlay("peer 1 1; peer 1 1; link 0 1 1; knows 0 1; probe 20 9;");
        x.run(13);
        x.open(0, 1);
        Check.same("26: 9 * 20", x.ticksToDirect(0), 180);
        x.run(160);
        Check.same("26: the last probe", x.ticksToDirect(0), 20);
        x.setLink(0, 1, false);
        x.run(20);
        x.setLink(0, 1, true);
        Check.same("26: all anew", x.ticksToDirect(0), 180);
        x.run(180);
        Check.same("16: direct", x.path(0), 100);
    }

    /** "NONE if it will not be direct within 300 ticks" */
    private static void directNever() {
        PeerOverlay none = Check.overlay("peer 1 1; peer 1 1; knows 0 1; probe 1 1;");
        none.open(0, 1);
        Check.same("26: no link", none.ticksToDirect(0), PeerOverlay.NONE);
        PeerOverlay down = Check.overlay(TRIANGLE + "probe 1 1;");
        down.open(0, 1);
        down.setLink(0, 1, false);
        Check.same("26: it is down", down.ticksToDirect(0), -1);
        down.setLink(0, 1, true);
        Check.same("26: it is up", down.ticksToDirect(0), 1);
    }

    /** "if only time passes": other sessions' time, too */
    private static void predictionsWithOthers() {
        PeerOverlay x = busy();
        Check.same("25: the first", x.ticksToDeliver(0), 30);
        Check.same("25: the second", x.ticksToDeliver(1), 13);
        Check.same("26: the first", x.ticksToDirect(0), 8);
        Check.same("26: the second", x.ticksToDirect(1), 8);
        x.run(7);
        Check.same("25: the first, later", x.ticksToDeliver(0), 23);
        Check.same("25: the second, later", x.ticksToDeliver(1), 6);
        Check.same("26: the second, later", x.ticksToDirect(1), 1);
    }

    /** "predictions: nothing changes by them" */
    private static void predictionsChangeNothing() {
        PeerOverlay x = busy();
        x.run(5);
        x.saveSnapshot(0);
        for (int times = 0; times < 20; times++) {
            x.ticksToDeliver(times % 2);
            x.ticksToDirect(times % 2);
        }
        PeerOverlay due = busy();
        due.run(5);
        Everything.same("25 and 26: nothing changes", x, due);
        Check.same("33: nor the history", x.undo(), 9);
        Check.same("6: before the run", x.tick(), 0);
        Check.same("35: nor the slots", x.restoreSnapshot(0), 5);
    }

    /** Only run is said to refuse ticks beyond 9999; a prediction counts them like others (the document leaves it open). */
    private static void predictionsAtTheLastTick() {
        PeerOverlay x = Check.overlay(TRIANGLE + "probe 2 1;");
        for (int times = 0; times < 33; times++) {
            x.run(300);
        }
        x.run(99);
        x.open(0, 1);
        x.send(0, 1);
        Check.same("25: 30 ticks", x.ticksToDeliver(0), 30);
        Check.same("26: 2 ticks", x.ticksToDirect(0), 2);
        Check.same("6: no time has passed", x.tick(), 9999);
        Check.badState("27: nor can it", () -> x.run(1));
    }
}
