/** Promises 25 to 27 and 6: ticksToDeliver, ticksToDirect, run, and the steps of a tick. */
public final class TimeTest {
    private static final String PAIR = "peer 1 1; peer 1 1; link 0 1 99; knows 0 1;";
    private static final String TRIANGLE = "peer 1 1; peer 1 1; peer 1 1; link 0 1 5; link 0 2 20; link 2 1 10;"
            + "knows 0 1; knows 0 2; knows 1 2;";

    private TimeTest() {
    }

    public static void main(String[] args) {
        runArguments();
        lastTick();
        deliveries();
        predictedDelivery();
        predictedDirect();
        predictionLimits();
        predictionsChangeNothing();
        relayIsFreedInStepFour();
        Check.finish();
    }

    private static void runArguments() {
        PeerOverlay x = Check.overlay(PAIR);
        for (int bad : new int[] {0, -1, 301, Integer.MIN_VALUE, Integer.MAX_VALUE}) {
            Check.badArgument("27: run " + bad, () -> x.run(bad));
        }
        Check.same("6: nothing happened", x.tick(), 0);
        Check.same("27: the fewest", x.run(1), 0);
        Check.same("27: the most", x.run(300), 0);
        Check.same("6: tick", x.tick(), 301);
    }

    private static void lastTick() {
        PeerOverlay x = new PeerOverlay();
        for (int times = 0; times < 33; times++) {
            x.run(300);
        }
        Check.same("6: tick", x.tick(), 9900);
        Check.badState("27: beyond 9999", () -> x.run(100));
        Check.badArgument("27: the range is checked first", () -> x.run(301));
        Check.same("6: nothing happened", x.tick(), 9900);
        Check.same("27: up to 9999", x.run(99), 0);
        Check.same("6: the last", x.tick(), 9999);
        Check.badState("27: not one more", () -> x.run(1));
        Check.same("33: back", x.undo(), 9);
        Check.same("6: tick again", x.tick(), 9900);
    }

    private static void deliveries() {
        PeerOverlay x = Check.overlay(TRIANGLE + "probe 20 9; peer 1 1; link 0 3 1; link 3 2 1; knows 0 3; knows 3 2;");
        x.open(0, 1);
        x.open(0, 2);
        x.send(0, 1);
        x.send(1, 2);
        x.send(1, 3);
        Check.same("27: of all sessions", x.run(2), 2);
        Check.same("27: none", x.run(27), 0);
        Check.same("27: the other", x.run(1), 1);
        Check.same("27: none any more", x.run(300), 0);
    }

    private static void predictedDelivery() {
        PeerOverlay x = Check.overlay(TRIANGLE + "probe 2 1;");
        x.open(0, 1);
        Check.same("25: nothing to deliver", x.ticksToDeliver(0), 0);
        x.send(0, 1);
        Check.same("25: over the relay", x.ticksToDeliver(0), 30);
        x.run(29);
        Check.same("25: the last tick", x.ticksToDeliver(0), 1);
        x.send(0, 2);
        Check.same("25: the later one", x.ticksToDeliver(0), 5);
        x.run(5);
        Check.same("25: all delivered", x.ticksToDeliver(0), 0);
        x.setLink(0, 1, false);
        x.setLink(0, 2, false);
        x.send(0, 3);
        Check.same("25: no path", x.ticksToDeliver(0), -1);
        x.setLink(0, 2, true);
        Check.same("25: a relay in the next tick", x.ticksToDeliver(0), 31);
        x.setLink(0, 1, true);
        x.setLink(0, 2, false);
        Check.same("25: direct in the next probe", x.ticksToDeliver(0), 7);
    }

    private static void predictedDirect() {
        PeerOverlay x = Check.overlay(TRIANGLE + "probe 7 3;");
        x.open(0, 1);
        Check.same("26: three probes", x.ticksToDirect(0), 21);
        x.run(8);
        Check.same("26: two more", x.ticksToDirect(0), 13);
        x.setLink(0, 1, false);
        Check.same("26: no link", x.ticksToDirect(0), -1);
        x.run(6);
        x.setLink(0, 1, true);
        Check.same("26: three again", x.ticksToDirect(0), 21);
        x.run(21);
        Check.same("26: it is direct", x.ticksToDirect(0), 0);
        PeerOverlay far = Check.overlay(PAIR + "probe 20 9;");
        far.open(0, 1);
        Check.same("26: the longest", far.ticksToDirect(0), 180);
        Check.same("26: no link at all", withoutLink().ticksToDirect(0), -1);
    }

    private static PeerOverlay withoutLink() {
        PeerOverlay x = Check.overlay("peer 1 1; peer 1 1; knows 0 1;");
        x.open(0, 1);
        return x;
    }

    /** A session that waits for the only relay until the other one leaves it. */
    private static void predictionLimits() {
        Check.same("25: 300 ticks", chain(38).ticksToDeliver(1), 300);
        Check.same("25: 301 ticks", chain(39).ticksToDeliver(1), -1);
    }

    private static PeerOverlay chain(int delay) {
        PeerOverlay x = Check.overlay("peer 1 1; peer 1 1; peer 1 1; peer 1 1; link 0 1 99; link 0 2 99; link 2 1 9;"
                + "link 3 2 " + delay + "; knows 0 1; knows 0 2; knows 1 2; knows 0 3; knows 2 3;"
                + "probe 18 9;");
        x.open(0, 1);
        Check.same("16: it takes the only relay", x.path(0), 2);
        x.open(0, 3);
        Check.same("16: the relay is full", x.path(1), -1);
        x.send(1, 1);
        // The relay is free after tick 162 and taken in tick 163; the message then needs 99 and the delay.
        Check.same("26: the first session", x.ticksToDirect(0), 162);
        Check.same("26: the second never", x.ticksToDirect(1), -1);
        return x;
    }

    private static void predictionsChangeNothing() {
        PeerOverlay x = Check.overlay(TRIANGLE + "probe 2 1;");
        x.open(0, 1);
        x.send(0, 1);
        x.ticksToDeliver(0);
        x.ticksToDirect(0);
        Check.same("25: tick", x.tick(), 0);
        Check.same("25: path", x.path(0), 2);
        Check.same("25: key", x.key(0), 0);
        Check.same("25: the message travels", x.messages(0, 1), 1);
        Check.same("25: no change", x.undo(), 1);
    }

    private static void relayIsFreedInStepFour() {
        PeerOverlay x = Check.overlay("peer 1 1; peer 1 1; peer 1 1; link 0 1 5; link 0 2 1; link 2 1 1;"
                + "knows 0 1; knows 0 2; knows 1 2; probe 3 1;");
        x.open(0, 1);
        x.run(1);
        x.open(1, 0);
        Check.same("16: the relay is full", x.path(1), -1);
        x.run(2);
        Check.same("16: the first is direct", x.path(0), 100);
        Check.same("17: and its old path empty", x.oldPath(0), -1);
        Check.same("16: too late for the second in this tick", x.path(1), -1);
        x.undo();
        x.setLink(0, 1, false);
        x.run(3);
        Check.same("16: the relay is still used", x.path(1), -1);
        x.close(0);
        x.run(1);
        Check.same("16: it is free", x.path(1), 2);
    }
}
