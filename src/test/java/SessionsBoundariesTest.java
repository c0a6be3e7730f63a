/** SESSIONS AND PATHS, the steps of a tick, and promises 14 to 18, 29 and 32: a test for each boundary case. */
public final class SessionsBoundariesTest {
    private static final String ALL_KNOW = "knows 0 1; knows 0 2; knows 0 3; knows 1 2; knows 1 3; knows 2 3;";
    /** Between 0 and 1 the relay 2 takes 2 + 3, the relay 3 20 + 30, the direct link 10. */
    private static final String TWO_RELAYS = "peer 1 1; peer 1 1; peer 1 1; peer 1 1; link 0 1 10;"
            + "link 0 2 2; link 2 1 3; link 0 3 20; link 3 1 30;" + ALL_KNOW;
    private static final int[] NO_SESSIONS = {-1, 6, 7, 31, 32, Integer.MIN_VALUE, Integer.MAX_VALUE};

    private SessionsBoundariesTest() {
    }

    public static void main(String[] args) {
        bitSet();
        lowestFree();
        atMostSix();
        openRefuses();
        openOrder();
        openDirectionsDiffer();
        sessionAnswers();
        noSuchSession();
        pathNumbers();
        directNeedsItsLink();
        longestDelays();
        shortestDelays();
        firstProbe();
        probeLimits();
        periodCountsFromOpening();
        failedProbe();
        needIsReached();
        noProbeWhenDirect();
        upgradeWithoutRelay();
        upgradeKeepsEarlierOldPath();
        laterOldPath();
        oldPathOfKeptMessages();
        oldPathEmptyAtOnce();
        relayInStepThree();
        stepsInOrder();
        probesBeforeRelays();
        allProbesBeforeAnyRelay();
        closeReturns();
        closeRefuses();
        closeFrees();
        numberUsedAgain();
        Check.finish();
    }

    /** "Returns the open sessions as a bit set." */
    private static void bitSet() {
        PeerOverlay x = Check.overlay(TWO_RELAYS);
        Check.same("14: empty", x.sessions(), 0);
        openSix(x);
        Check.same("14: full", x.sessions(), 63);
        for (int number = 0; number < 6; number++) {
            x.close(number);
            Check.same("14: without " + number, x.sessions(), 63 & ~(1 << number));
            x.undo();
        }
        for (int number = 0; number < 6; number++) {
            x.close(number);
        }
        Check.same("14: empty again", x.sessions(), 0);
    }

    private static void openSix(PeerOverlay x) {
        int number = 0;
        for (int sender = 0; sender < 3; sender++) {
            for (int receiver = 0; receiver < 3; receiver++) {
                if (sender != receiver) {
                    Check.same("29: number", x.open(sender, receiver), number);
                    number++;
                }
            }
        }
    }

    /** "a new one gets the lowest free number, 0 to 5" */
    private static void lowestFree() {
        for (int low = 0; low < 6; low++) {
            for (int high = low; high < 6; high++) {
                PeerOverlay x = Check.overlay(TWO_RELAYS);
                openSix(x);
                x.close(high);
                if (low < high) {
                    x.close(low);
                    Check.same("29: the lower of " + low + " " + high, x.open(3, 0), low);
                }
                Check.same("29: the one that is left", x.open(3, 1), high);
                Check.badState("29: full", () -> x.open(3, 2));
            }
        }
    }

    /** "There are at most 6 sessions at a time"; "IllegalStateException if ... 6 sessions are open" */
    private static void atMostSix() {
        PeerOverlay x = Check.overlay(TWO_RELAYS);
        openSix(x);
        Check.badState("29: a seventh", () -> x.open(3, 0));
        Check.same("15: there is none", x.session(3, 0), -1);
        x.undo();
        Check.same("29: the sixth again", x.open(3, 0), 5);
    }

    /** "if they do not know each other, there is a session from this sender to this receiver" */
    private static void openRefuses() {
        PeerOverlay x = Check.overlay("peer 1 1; peer 1 1; peer 1 1; link 0 2 1; knows 0 1; knows 1 2;");
        Check.badState("29: they don't know each other", () -> x.open(0, 2));
        Check.badState("29: nor back", () -> x.open(2, 0));
        x.introduce(1, 0, 2);
        Check.same("29: now they do", x.open(0, 2), 0);
        Check.badState("29: there is one", () -> x.open(0, 2));
        x.close(0);
        Check.same("29: there is none any more", x.open(0, 2), 0);
    }

    /** "(checked first)", "(checked second)" */
    private static void openOrder() {
        PeerOverlay x = Check.overlay(TWO_RELAYS);
        openSix(x);
        for (int bad : new int[] {-1, 4, 8, Integer.MIN_VALUE, Integer.MAX_VALUE}) {
            Check.outside("29: sender " + bad, () -> x.open(bad, 0));
            Check.outside("29: receiver " + bad, () -> x.open(0, bad));
            Check.outside("29: both " + bad, () -> x.open(bad, bad));
            Check.outside("15: sender " + bad, () -> x.session(bad, 0));
            Check.outside("15: receiver " + bad, () -> x.session(0, bad));
            Check.outside("15: both " + bad, () -> x.session(bad, bad));
        }
        for (int peer = 0; peer < 4; peer++) {
            int one = peer;
            Check.badArgument("29: both are " + peer + ", with six open", () -> x.open(one, one));
            Check.badArgument("15: both are " + peer, () -> x.session(one, one));
        }
    }

    /** "A session leads from a sender to a receiver": the way back is another one. */
    private static void openDirectionsDiffer() {
        PeerOverlay x = Check.overlay(TWO_RELAYS);
        x.open(0, 1);
        Check.same("15: none back", x.session(1, 0), -1);
        Check.same("29: the way back", x.open(1, 0), 1);
        x.close(0);
        Check.same("15: closed", x.session(0, 1), -1);
        Check.same("15: the way back stays", x.session(1, 0), 1);
    }

    /** "the session; NONE if there is none" */
    private static void sessionAnswers() {
        PeerOverlay x = Check.overlay(TWO_RELAYS);
        openSix(x);
        int number = 0;
        for (int sender = 0; sender < 4; sender++) {
            for (int receiver = 0; receiver < 4; receiver++) {
                if (sender != receiver) {
                    boolean one = sender < 3 && receiver < 3;
                    Check.same("15: " + sender + " " + receiver, x.session(sender, receiver), one ? number : -1);
                    number += one ? 1 : 0;
                }
            }
        }
    }

    /** "a peer, session (of an open one) or slot that does not exist causes an IndexOutOfBoundsException" */
    private static void noSuchSession() {
        PeerOverlay x = Check.overlay(TWO_RELAYS);
        refuseAll(x, 0);
        openSix(x);
        for (int bad : NO_SESSIONS) {
            refuseAll(x, bad);
        }
        for (int number = 0; number < 6; number++) {
            Check.same("18: an open one", x.successes(number), 0);
            x.close(number);
            refuseAll(x, number);
        }
    }

    private static void refuseAll(PeerOverlay x, int bad) {
        Check.outside("16: path " + bad, () -> x.path(bad));
        Check.outside("17: oldPath " + bad, () -> x.oldPath(bad));
        Check.outside("18: successes " + bad, () -> x.successes(bad));
        Check.outside("19: messages " + bad, () -> x.messages(bad, 0));
        Check.outside("19: messages with a bad state " + bad, () -> x.messages(bad, 4));
        Check.outside("20: lastValue " + bad, () -> x.lastValue(bad));
        Check.outside("21: digest " + bad, () -> x.digest(bad));
        Check.outside("22: key " + bad, () -> x.key(bad));
        Check.outside("23: oldestKey " + bad, () -> x.oldestKey(bad));
        Check.outside("24: keyStart " + bad, () -> x.keyStart(bad));
        Check.outside("25: ticksToDeliver " + bad, () -> x.ticksToDeliver(bad));
        Check.outside("26: ticksToDirect " + bad, () -> x.ticksToDirect(bad));
        Check.outside("30: send " + bad, () -> x.send(bad, 1));
        Check.outside("32: close " + bad, () -> x.close(bad));
    }

    /** "DIRECT; the relay; NONE if there is no path": the first and the last peer are relays like others. */
    private static void pathNumbers() {
        for (int relay : new int[] {0, 7}) {
            PeerOverlay x = Check.overlay("peer 1 1;".repeat(8) + "link 3 4 9; link 3 " + relay + " 40; link 4 " + relay
                    + " 50; knows 3 4; knows 3 " + relay + "; knows 4 " + relay + "; probe 2 1;");
            x.open(3, 4);
            Check.same("16: the relay", x.path(0), relay);
            Check.same("17: no old path", x.oldPath(0), PeerOverlay.NONE);
            x.send(0, 1);
            x.run(2);
            Check.same("16: direct", x.path(0), PeerOverlay.DIRECT);
            Check.same("17: the relay", x.oldPath(0), relay);
            x.setLink(3, 4, false);
            Check.same("16: the relay is full of the old path", x.path(0), PeerOverlay.NONE);
            x.run(88);
            Check.same("17: empty in tick 90", x.oldPath(0), PeerOverlay.NONE);
            Check.same("16: not in the same tick", x.path(0), PeerOverlay.NONE);
            x.run(1);
            Check.same("16: free in the next tick", x.path(0), relay);
        }
    }

    /** "The direct path needs the link between sender and receiver to be up" */
    private static void directNeedsItsLink() {
        PeerOverlay none = Check.overlay("peer 1 1; peer 1 1; knows 0 1; probe 1 1;");
        none.open(0, 1);
        none.run(50);
        Check.same("16: no link", none.path(0), -1);
        Check.same("18: no successes", none.successes(0), 0);
        PeerOverlay down = Check.overlay("peer 1 1; peer 1 1; link 0 1 5; knows 0 1; probe 1 1;");
        down.setLink(0, 1, false);
        down.open(0, 1);
        down.run(50);
        Check.same("16: it is down", down.path(0), -1);
        down.setLink(0, 1, true);
        Check.same("16: up, but no probe yet", down.path(0), -1);
        down.run(1);
        Check.same("16: up", down.path(0), 100);
        down.setLink(0, 1, false);
        Check.same("16: down again", down.path(0), -1);
    }

    /** "the delay is the sum of the delays of both links", "arrives after its delay": at most 198 */
    private static void longestDelays() {
        PeerOverlay x = Check.overlay("peer 1 1; peer 1 1; peer 1 1; link 0 1 99; link 0 2 99; link 2 1 99;"
                + "knows 0 1; knows 0 2; knows 1 2; probe 20 9;");
        x.open(0, 1);
        x.send(0, 1);
        Check.same("27: too early", x.run(197), 0);
        Check.same("27: after 99 + 99", x.run(1), 1);
        Check.same("16: direct since tick 180", x.path(0), 100);
        x.send(0, 2);
        Check.same("27: too early again", x.run(98), 0);
        Check.same("27: after 99", x.run(1), 1);
    }

    /** The smallest delays: 1 directly, 1 + 1 over a relay */
    private static void shortestDelays() {
        PeerOverlay x = Check.overlay("peer 1 1; peer 1 1; peer 1 1; link 0 1 1; link 0 2 1; link 2 1 1;"
                + "knows 0 1; knows 0 2; knows 1 2; probe 3 1;");
        x.open(0, 1);
        x.send(0, 1);
        Check.same("27: too early", x.run(1), 0);
        Check.same("27: after 1 + 1", x.run(1), 1);
        x.run(1);
        Check.same("16: direct", x.path(0), 100);
        x.send(0, 2);
        Check.same("27: after 1", x.run(1), 1);
    }

    /** The tick in which a session is opened is over; a probe is made after whole periods alone. */
    private static void firstProbe() {
        PeerOverlay x = Check.overlay(TWO_RELAYS + "probe 1 1;");
        x.open(0, 1);
        Check.same("18: not yet", x.successes(0), 0);
        Check.same("16: not yet", x.path(0), 2);
        x.run(1);
        Check.same("16: after one tick", x.path(0), 100);
    }

    /** "period 1 to 20, need 1 to 9" */
    private static void probeLimits() {
        for (int period : new int[] {1, 2, 19, 20}) {
            for (int need : new int[] {1, 2, 8, 9}) {
                PeerOverlay x = Check.overlay(TWO_RELAYS + "probe " + period + " " + need + ";");
                x.run(7);
                x.open(0, 1);
                Check.same("26: period " + period + ", need " + need, x.ticksToDirect(0), period * need);
                if (period * need > 1) {
                    x.run(period * need - 1);
                }
                Check.same("16: one tick before", x.path(0), 2);
                Check.same("18: one probe before", x.successes(0), need - 1);
                x.run(1);
                Check.same("16: then", x.path(0), 100);
                Check.same("18: it becomes 0", x.successes(0), 0);
            }
        }
    }

    /** "the number of the tick minus that of the tick in which the session was opened is divisible by the period" */
    private static void periodCountsFromOpening() {
        for (int opened = 0; opened < 5; opened++) {
            PeerOverlay x = Check.overlay(TWO_RELAYS + "probe 4 9;");
            if (opened > 0) {
                x.run(opened);
            }
            x.open(0, 1);
            for (int passed = 1; passed <= 12; passed++) {
                x.run(1);
                Check.same("18: opened in " + opened + ", passed " + passed, x.successes(0), passed / 4);
            }
        }
    }

    /** "if the link ... is up, the number of successes ... increases by 1, otherwise it becomes 0" */
    private static void failedProbe() {
        PeerOverlay x = Check.overlay(TWO_RELAYS + "probe 2 4;");
        x.open(0, 1);
        x.run(6);
        Check.same("18: three", x.successes(0), 3);
        x.setLink(0, 1, false);
        x.run(1);
        Check.same("18: no probe between", x.successes(0), 3);
        x.setLink(0, 1, true);
        x.setLink(0, 1, false);
        x.run(1);
        Check.same("18: 0", x.successes(0), 0);
        x.run(4);
        Check.same("18: still 0", x.successes(0), 0);
        x.setLink(0, 1, true);
        x.run(8);
        Check.same("16: four in a row", x.path(0), 100);
        PeerOverlay between = Check.overlay(TWO_RELAYS + "probe 2 4;");
        between.open(0, 1);
        between.run(6);
        between.setLink(0, 1, false);
        between.run(1);
        between.setLink(0, 1, true);
        between.run(1);
        Check.same("16: down between two probes is not seen", between.path(0), 100);
    }

    /** "If it is need then, the session is upgraded: it becomes 0, the path becomes direct" */
    private static void needIsReached() {
        PeerOverlay x = Check.overlay(TWO_RELAYS + "probe 3 3;");
        x.open(0, 1);
        int[] due = {0, 0, 1, 1, 1, 2, 2, 2, 0, 0};
        for (int tick = 0; tick < 10; tick++) {
            x.run(1);
            Check.same("18: after tick " + (tick + 1), x.successes(0), due[tick]);
            Check.same("16: after tick " + (tick + 1), x.path(0), tick < 8 ? 2 : 100);
        }
    }

    /** "If the path of the session is not direct": then no probe is made. */
    private static void noProbeWhenDirect() {
        PeerOverlay x = Check.overlay(TWO_RELAYS + "probe 1 2;");
        x.open(0, 1);
        x.run(2);
        Check.same("16: direct", x.path(0), 100);
        x.run(1);
        Check.same("18: no probe", x.successes(0), 0);
        x.run(20);
        Check.same("18: none at all", x.successes(0), 0);
        x.setLink(0, 1, false);
        Check.same("16: over the relay", x.path(0), 2);
        x.setLink(0, 1, true);
        x.run(1);
        Check.same("18: the first again", x.successes(0), 1);
    }

    /** "The relay of the path before (if there was one) becomes the old path" */
    private static void upgradeWithoutRelay() {
        PeerOverlay x = Check.overlay("peer 1 1; peer 1 1; link 0 1 4; knows 0 1; probe 3 1;");
        x.open(0, 1);
        x.send(0, 5);
        x.run(2);
        Check.same("19: it waits", x.messages(0, 0), 1);
        x.run(1);
        Check.same("16: direct", x.path(0), 100);
        Check.same("17: there was no relay", x.oldPath(0), -1);
        Check.same("19: it begins to travel in that tick", x.messages(0, 1), 1);
        Check.same("27: too early", x.run(3), 0);
        Check.same("27: after 4 from then", x.run(1), 1);
    }

    /** An earlier old path is replaced by a relay alone, not by "there was none". */
    private static void upgradeKeepsEarlierOldPath() {
        PeerOverlay x = Check.overlay("peer 1 1; peer 1 1; peer 1 1; link 0 1 4; link 0 2 30; link 2 1 30;"
                + "knows 0 1; knows 0 2; knows 1 2; probe 2 1;");
        x.open(0, 1);
        x.send(0, 1);
        x.run(2);
        Check.same("17: the relay", x.oldPath(0), 2);
        x.setLink(0, 1, false);
        Check.same("16: none", x.path(0), -1);
        x.setLink(0, 1, true);
        x.run(2);
        Check.same("16: direct from none", x.path(0), 100);
        Check.same("17: the earlier one", x.oldPath(0), 2);
        x.run(55);
        Check.same("17: until its message arrives", x.oldPath(0), 2);
        x.run(1);
        Check.same("17: in tick 60", x.oldPath(0), -1);
    }

    /** "becomes the old path of the session, in place of an earlier old path" */
    private static void laterOldPath() {
        PeerOverlay x = Check.overlay(TWO_RELAYS + "probe 1 1; score 0 - first;");
        x.open(0, 1);
        x.send(0, 1);
        x.run(1);
        Check.same("17: the slow relay", x.oldPath(0), 3);
        x.setLink(0, 1, false);
        x.send(0, 2);
        x.setLink(0, 1, true);
        x.run(1);
        Check.same("17: the fast relay", x.oldPath(0), 2);
        Check.same("11: no load of the slow one", x.load(3), 0);
        Check.same("11: that of the fast one", x.load(2), 1);
        Check.same("19: both travel", x.messages(0, 1), 2);
        Check.same("12: the slow one is free", x.bestRelay(0, 1), 3);
    }

    /** "If no message of the session travels over its old path any more": a kept message travels no more. */
    private static void oldPathOfKeptMessages() {
        PeerOverlay x = Check.overlay(TWO_RELAYS + "probe 1 1; score 0 - first;");
        x.open(0, 1);
        x.send(0, 1);
        x.run(1);
        x.setLink(0, 1, false);
        x.send(0, 2);
        x.setLink(0, 1, true);
        x.run(4);
        Check.same("17: one tick before", x.oldPath(0), 2);
        x.run(1);
        Check.same("19: it is kept", x.messages(0, 2), 1);
        Check.same("17: in the tick of its arrival", x.oldPath(0), -1);
        Check.same("27: both in tick 50", x.run(44), 2);
    }

    /** An old path without messages is gone in the tick in which it became one. */
    private static void oldPathEmptyAtOnce() {
        PeerOverlay x = Check.overlay(TWO_RELAYS + "probe 5 1;");
        x.open(0, 1);
        x.send(0, 1);
        x.run(5);
        Check.same("16: direct", x.path(0), 100);
        Check.same("19: the message arrived in this very tick", x.messages(0, 3), 1);
        Check.same("17: so it is empty", x.oldPath(0), -1);
        PeerOverlay y = Check.overlay(TWO_RELAYS + "probe 5 1;");
        y.open(0, 1);
        y.run(1);
        y.send(0, 1);
        y.run(4);
        Check.same("17: it arrives one tick later", y.oldPath(0), 2);
        y.run(1);
        Check.same("17: then it is empty", y.oldPath(0), -1);
    }

    /** "If the session has no path, and there is a best relay, this becomes its path, and all waiting messages begin to travel now." */
    private static void relayInStepThree() {
        PeerOverlay x = Check.overlay(TWO_RELAYS + "probe 20 9;");
        x.setLink(0, 2, false);
        x.setLink(0, 3, false);
        x.open(0, 1);
        x.send(0, 1);
        x.run(3);
        x.send(0, 2);
        Check.same("19: both wait", x.messages(0, 0), 2);
        x.setLink(0, 3, true);
        Check.same("16: only a tick looks for a relay", x.path(0), -1);
        x.run(1);
        Check.same("16: the only one", x.path(0), 3);
        Check.same("19: both travel", x.messages(0, 1), 2);
        x.setLink(0, 2, true);
        x.run(1);
        Check.same("16: a better one changes nothing", x.path(0), 3);
        Check.same("27: too early", x.run(48), 0);
        Check.same("27: 20 + 30 from that tick on", x.run(1), 2);
    }

    /** "each step for all sessions by ascending number" */
    private static void stepsInOrder() {
        // Both sessions lose their path with peer 2; the lower one finds the fast relay first.
        PeerOverlay x = Check.overlay(TWO_RELAYS + "probe 20 9; score first + second;");
        x.open(1, 0);
        x.open(0, 1);
        Check.same("16: the fast one", x.path(0), 2);
        Check.same("16: the slow one", x.path(1), 3);
        x.setLink(0, 3, false);
        x.setLink(0, 2, false);
        Check.same("16: none", x.path(0), -1);
        x.setLink(0, 2, true);
        x.setLink(0, 3, true);
        x.run(1);
        Check.same("16: the lower takes the best", x.path(0), 2);
        Check.same("16: the higher what is left", x.path(1), 3);
        // All probes come before any relay is looked for: the upgrade of the higher frees nothing for the lower in this
        // tick, since its relay is still its old path.
        PeerOverlay y = Check.overlay("peer 9 1; peer 9 1; peer 1 1; peer 9 1; link 0 2 1; link 2 1 1; link 2 3 1;"
                + "link 0 3 9; knows 0 1; knows 0 2; knows 1 2; knows 0 3; knows 2 3; probe 2 1;");
        y.open(0, 3);
        Check.same("16: the only relay", y.path(0), 2);
        y.open(0, 1);
        Check.same("16: it is full", y.path(1), -1);
        y.run(2);
        Check.same("16: direct", y.path(0), 100);
        Check.same("16: still full in step 3", y.path(1), -1);
        y.run(1);
        Check.same("16: free since step 4", y.path(1), 2);
    }

    /** Step 2 comes before step 3: a session that becomes direct looks for no relay. */
    private static void probesBeforeRelays() {
        PeerOverlay x = Check.overlay(TWO_RELAYS + "probe 4 1;");
        x.setLink(0, 2, false);
        x.setLink(0, 3, false);
        x.open(0, 1);
        x.send(0, 1);
        x.run(3);
        x.setLink(0, 2, true);
        x.run(1);
        Check.same("16: direct from none", x.path(0), 100);
        Check.same("17: there was no relay", x.oldPath(0), -1);
        Check.same("22: the path changed once", x.key(0), 1);
        Check.same("25: along the direct path", x.ticksToDeliver(0), 10);
    }

    /** Step 2 is done for all sessions before step 3: what a higher one leaves by its probe, a lower one finds. */
    private static void allProbesBeforeAnyRelay() {
        PeerOverlay x = Check.overlay(TWO_RELAYS + "peer 1 1; link 3 4 1; knows 0 4; knows 3 4; probe 1 1; score 0 - first;");
        x.open(2, 0);
        x.open(0, 1);
        Check.same("16: the slow relay", x.path(1), 3);
        x.close(0);
        x.open(0, 4);
        Check.same("16: the same relay is full", x.path(0), -1);
        x.send(1, 1);
        x.run(1);
        Check.same("17: it is an old path", x.oldPath(1), 3);
        x.setLink(0, 1, false);
        Check.same("16: the fast relay", x.path(1), 2);
        x.send(1, 2);
        x.setLink(0, 1, true);
        Check.same("11: still full", x.load(3), 1);
        x.run(1);
        Check.same("17: replaced in step 2", x.oldPath(1), 2);
        Check.same("16: found in step 3", x.path(0), 3);
    }

    /** "Returns the number of messages that were sent in it." */
    private static void closeReturns() {
        PeerOverlay x = Check.overlay(TWO_RELAYS);
        x.open(0, 1);
        Check.same("32: none", x.close(0), 0);
        x.open(0, 1);
        for (int sent = 0; sent < 30; sent++) {
            x.send(0, sent);
            x.run(1);
        }
        x.run(40);
        Check.same("32: thirty", x.close(0), 30);
        x.open(0, 1);
        Check.same("32: of this session alone", x.close(0), 0);
    }

    /** "IllegalStateException if a message of it has not been delivered" */
    private static void closeRefuses() {
        PeerOverlay x = Check.overlay(TWO_RELAYS + "probe 1 1; score 0 - first;");
        x.open(0, 1);
        x.send(0, 1);
        Check.badState("32: it travels", () -> x.close(0));
        x.run(1);
        x.send(0, 2);
        x.run(10);
        Check.same("19: one is kept", x.messages(0, 2), 1);
        Check.badState("32: one travels, one is kept", () -> x.close(0));
        x.run(38);
        Check.badState("32: one tick before", () -> x.close(0));
        x.run(1);
        Check.same("32: both delivered", x.close(0), 2);
        PeerOverlay y = Check.overlay("peer 1 1; peer 1 1; knows 0 1;");
        y.open(0, 1);
        y.send(0, 1);
        Check.badState("32: it waits", () -> y.close(0));
    }

    /** A closed session has no load, no number and no pair any more. */
    private static void closeFrees() {
        PeerOverlay x = Check.overlay(TWO_RELAYS);
        x.open(0, 1);
        x.open(1, 0);
        Check.same("11: the load", x.load(2), 1);
        x.close(0);
        Check.same("11: no load", x.load(2), 0);
        Check.same("12: free", x.bestRelay(0, 1), 2);
        Check.same("16: the others stay", x.path(1), 3);
        x.open(0, 1);
        Check.same("16: taken again", x.path(0), 2);
    }

    /** A session with a number that was used before begins like any new one. */
    private static void numberUsedAgain() {
        PeerOverlay used = Check.overlay(TWO_RELAYS + "probe 3 9; keys 2;");
        used.open(1, 0);
        for (int sent = 0; sent < 24; sent++) {
            used.send(0, sent + 1);
        }
        used.run(25);
        used.send(0, 1);
        used.run(5);
        Check.same("22: it had keys", used.key(0), 13);
        Check.same("16: it became direct", used.path(0), 100);
        used.setLink(0, 1, false);
        used.setLink(0, 1, true);
        used.run(3);
        used.send(0, 1);
        Check.same("24: it had a message with its last key", used.keyStart(0), 25);
        Check.same("18: it had successes", used.successes(0), 1);
        used.run(5);
        used.close(0);
        used.open(0, 1);
        PeerOverlay fresh = Check.overlay(TWO_RELAYS + "probe 3 9; keys 2;");
        fresh.run(38);
        fresh.open(0, 1);
        Everything.same("29: all anew", used, fresh);
    }
}
