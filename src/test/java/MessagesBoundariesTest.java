/** MESSAGES, KEYS, and promises 19 to 24 and 30: a test of its own for each sentence that names a boundary case. */
public final class MessagesBoundariesTest {
    private static final String THREE = "peer 1 1; peer 1 1; peer 1 1; knows 0 1; knows 0 2; knows 1 2;";
    /** The relay 2 takes 20 + 10, the direct link 5; direct from the second tick on. */
    private static final String SLOW_RELAY = THREE + "link 0 1 5; link 0 2 20; link 2 1 10; probe 2 1;";
    /** No link at all, so that all messages wait. */
    private static final String WAITING = "peer 1 1; peer 1 1; knows 0 1;";

    private MessagesBoundariesTest() {
    }

    public static void main(String[] args) {
        stateLimits();
        statesCount();
        numberedFromZero();
        atMost24Waiting();
        atMost24Travelling();
        atMost24Kept();
        aPlaceForEachDelivered();
        rowsWrapAround();
        otherSessionsHaveTheirOwn();
        arrivesAfterItsDelay();
        keptUntilSmallerNumbers();
        deliveredInOneTick();
        waitsWithoutPath();
        anyValue();
        lastValueRefuses();
        digestAtFirst();
        digestOverflows();
        firstKey();
        manyLimits();
        keyBeforeAMessage();
        keyOfAChangedPath();
        noKeyWithoutMessage();
        pathChangeWhenManyWereSent();
        keyToAndFromNone();
        keyOfOtherLinks();
        keyIsKept();
        oldestKeyLimits();
        keyStartLimits();
        Check.finish();
    }

    private static PeerOverlay open(String text) {
        PeerOverlay x = Check.overlay(text);
        x.open(0, 1);
        return x;
    }

    private static void expectStates(String what, PeerOverlay x, int waiting, int travelling, int kept, int delivered) {
        Check.same("19: waiting " + what, x.messages(0, 0), waiting);
        Check.same("19: travelling " + what, x.messages(0, 1), travelling);
        Check.same("19: kept " + what, x.messages(0, 2), kept);
        Check.same("19: delivered " + what, x.messages(0, 3), delivered);
    }

    /** "state: 0 waiting, 1 travelling, 2 kept by the receiver, 3 delivered"; "if state is out of range" */
    private static void stateLimits() {
        PeerOverlay x = open(SLOW_RELAY);
        for (int bad : new int[] {-1, 4, 5, -2, 100, Integer.MIN_VALUE, Integer.MAX_VALUE}) {
            Check.badArgument("19: state " + bad, () -> x.messages(0, bad));
            Check.outside("19: the session is checked first, with state " + bad, () -> x.messages(1, bad));
        }
        expectStates("at first", x, 0, 0, 0, 0);
    }

    private static void statesCount() {
        PeerOverlay x = open(SLOW_RELAY);
        x.send(0, 1);
        expectStates("on the relay", x, 0, 1, 0, 0);
        x.run(2);
        x.send(0, 2);
        x.run(5);
        expectStates("after the direct one arrived", x, 0, 1, 1, 0);
        x.setLink(0, 1, false);
        x.send(0, 3);
        expectStates("without a path", x, 1, 1, 1, 0);
        x.run(23);
        expectStates("after the first arrived", x, 1, 0, 0, 2);
        x.run(1);
        expectStates("with a relay again", x, 0, 1, 0, 2);
        x.run(30);
        expectStates("at the end", x, 0, 0, 0, 3);
    }

    /** "The messages of a session are numbered 0, 1, 2, ... in the order in which they are sent." */
    private static void numberedFromZero() {
        PeerOverlay x = open(SLOW_RELAY);
        for (int number = 0; number < 60; number++) {
            Check.same("30: number", x.send(0, 7), number);
            x.run(3);
        }
        x.undo();
        x.undo();
        Check.same("30: undone numbers are used again", x.send(0, 7), 59);
    }

    /** "At most 24 messages of a session are not delivered at a time." */
    private static void atMost24Waiting() {
        PeerOverlay x = open(WAITING);
        for (int number = 0; number < 24; number++) {
            Check.same("30: number", x.send(0, number), number);
        }
        expectStates("24", x, 24, 0, 0, 0);
        Check.badState("30: a 25th", () -> x.send(0, 0));
        expectStates("no 25th", x, 24, 0, 0, 0);
        x.undo();
        Check.same("30: the 24th again", x.send(0, 0), 23);
        Check.badState("30: a 25th again", () -> x.send(0, 0));
    }

    private static void atMost24Travelling() {
        PeerOverlay x = open(SLOW_RELAY);
        for (int number = 0; number < 24; number++) {
            x.send(0, number);
        }
        Check.badState("30: all travel", () -> x.send(0, 0));
        x.run(29);
        Check.badState("30: one tick before", () -> x.send(0, 0));
        Check.same("27: all arrive", x.run(1), 24);
        Check.same("30: now there is room", x.send(0, 24), 24);
    }

    private static void atMost24Kept() {
        PeerOverlay x = open(SLOW_RELAY);
        x.send(0, 0);
        x.run(2);
        for (int number = 1; number < 24; number++) {
            x.send(0, number);
        }
        x.run(27);
        expectStates("one holds all others up", x, 0, 1, 23, 0);
        Check.badState("30: kept ones are not delivered", () -> x.send(0, 0));
        Check.same("27: all at once", x.run(1), 24);
        Check.same("30: now there is room", x.send(0, 24), 24);
    }

    /** For each message that is delivered there is room for one more. */
    private static void aPlaceForEachDelivered() {
        PeerOverlay x = open(SLOW_RELAY);
        x.run(2);
        for (int number = 0; number < 24; number++) {
            x.send(0, number);
            if (number % 6 == 5) {
                x.run(1);
            }
        }
        // Six were sent in each of the ticks 2 to 5; the first six arrive in tick 7.
        Check.badState("30: full in tick 6", () -> x.send(0, 0));
        Check.same("27: six", x.run(1), 6);
        for (int number = 24; number < 30; number++) {
            Check.same("30: six more", x.send(0, number), number);
        }
        Check.badState("30: full again", () -> x.send(0, 0));
        Check.same("27: the next six", x.run(1), 6);
        expectStates("in tick 8", x, 0, 18, 0, 12);
    }

    /** More than 24 messages in all: none may take the place of one that is not delivered. */
    private static void rowsWrapAround() {
        PeerOverlay x = open(SLOW_RELAY + "keys 7;");
        x.run(2);
        int due = 0;
        int sent = 0;
        for (int round = 0; round < 9; round++) {
            int count = 24 - round % 5;
            for (int more = 0; more < count; more++) {
                Check.same("30: number", x.send(0, sent * 1000003), sent);
                due = 31 * due + sent * 1000003;
                sent++;
            }
            Check.same("23: the key of the first", x.oldestKey(0), (sent - count) / 7);
            Check.same("22: the key of the last", x.key(0), (sent - 1) / 7);
            Check.same("27: all", x.run(5), count);
            Check.same("21: in order", x.digest(0), due);
            Check.same("20: the last", x.lastValue(0), (sent - 1) * 1000003);
        }
        Check.same("19: delivered in all", x.messages(0, 3), sent);
    }

    private static void otherSessionsHaveTheirOwn() {
        PeerOverlay x = open(WAITING);
        x.open(1, 0);
        for (int number = 0; number < 24; number++) {
            x.send(0, 1);
        }
        Check.badState("30: the first is full", () -> x.send(0, 1));
        for (int number = 0; number < 24; number++) {
            Check.same("30: the second has its own numbers", x.send(1, 1), number);
        }
        Check.badState("30: the second is full", () -> x.send(1, 1));
    }

    /** "those that were sent with a delay d in tick t arrive in tick t + d" */
    private static void arrivesAfterItsDelay() {
        for (int delay : new int[] {1, 2, 50, 98, 99}) {
            PeerOverlay x = open(THREE + "link 0 1 " + delay + "; probe 3 1;");
            x.run(3);
            x.send(0, 9);
            if (delay > 1) {
                Check.same("27: not in tick t + d - 1", x.run(delay - 1), 0);
            }
            Check.same("27: in tick t + d", x.run(1), 1);
        }
    }

    /** "delivered as soon as all messages of the session with smaller numbers have been delivered" */
    private static void keptUntilSmallerNumbers() {
        PeerOverlay x = open(SLOW_RELAY);
        x.run(1);
        x.send(0, 10);
        x.run(1);
        x.send(0, 11);
        x.run(1);
        x.send(0, 12);
        x.run(4);
        expectStates("in tick 7", x, 0, 2, 1, 0);
        x.run(1);
        expectStates("in tick 8", x, 0, 1, 2, 0);
        x.run(22);
        expectStates("in tick 30", x, 0, 1, 2, 0);
        Check.same("25: one tick", x.ticksToDeliver(0), 1);
        Check.same("27: all in order in tick 31", x.run(1), 3);
        Check.same("21: 10, 11, 12", x.digest(0), (10 * 31 + 11) * 31 + 12);
    }

    /** Messages that arrive in the same tick, too, are delivered in that tick, by number. */
    private static void deliveredInOneTick() {
        PeerOverlay x = open(THREE + "link 0 1 5; link 0 2 4; link 2 1 3; probe 2 1;");
        x.send(0, 1);
        x.run(2);
        x.send(0, 2);
        Check.same("27: not in tick 6", x.run(4), 0);
        Check.same("27: both in tick 7", x.run(1), 2);
        Check.same("21: by number", x.digest(0), 33);
        Check.same("17: the old path is empty", x.oldPath(0), -1);
    }

    /** "without a path it waits" */
    private static void waitsWithoutPath() {
        PeerOverlay x = open(WAITING);
        x.send(0, 1);
        Check.same("27: for ever", x.run(300), 0);
        expectStates("after 300 ticks", x, 1, 0, 0, 0);
    }

    /** "value: any number" */
    private static void anyValue() {
        PeerOverlay x = open(SLOW_RELAY);
        x.run(2);
        for (int value : new int[] {0, -1, -2, 100, Integer.MIN_VALUE, Integer.MAX_VALUE}) {
            x.send(0, value);
            x.run(5);
            Check.same("20: any value", x.lastValue(0), value);
        }
    }

    /** "IllegalStateException if none was delivered" */
    private static void lastValueRefuses() {
        PeerOverlay x = open(SLOW_RELAY);
        Check.badState("20: none was sent", () -> x.lastValue(0));
        x.send(0, 4);
        Check.badState("20: it travels", () -> x.lastValue(0));
        x.run(2);
        x.send(0, 5);
        x.run(27);
        Check.badState("20: one is kept", () -> x.lastValue(0));
        x.run(1);
        Check.same("20: the one that was delivered last", x.lastValue(0), 5);
        Check.outside("20: the session is checked first", () -> x.lastValue(1));
        x.close(0);
        x.open(0, 1);
        Check.badState("20: none in the new session", () -> x.lastValue(0));
    }

    /** "0 at first" */
    private static void digestAtFirst() {
        PeerOverlay x = open(SLOW_RELAY);
        Check.same("21: none was sent", x.digest(0), 0);
        x.send(0, 4);
        Check.same("21: none was delivered", x.digest(0), 0);
        x.run(30);
        Check.same("21: 31 times 0 plus the value", x.digest(0), 4);
        x.send(0, 0);
        x.run(5);
        Check.same("21: a value of 0 counts, too", x.digest(0), 124);
    }

    /** "int arithmetic with overflow" */
    private static void digestOverflows() {
        PeerOverlay x = open(SLOW_RELAY);
        x.send(0, Integer.MAX_VALUE);
        x.send(0, Integer.MAX_VALUE);
        x.run(30);
        Check.same("21: above", x.digest(0), 31 * Integer.MAX_VALUE + Integer.MAX_VALUE);
        x.send(0, Integer.MIN_VALUE);
        x.run(5);
        Check.same("21: below", x.digest(0), 31 * (31 * Integer.MAX_VALUE + Integer.MAX_VALUE) + Integer.MIN_VALUE);
    }

    /** "The present key of a session is 0 at first." */
    private static void firstKey() {
        PeerOverlay x = open(SLOW_RELAY + "keys 1;");
        Check.same("22: at first", x.key(0), 0);
        x.send(0, 1);
        Check.same("22: of the first message", x.key(0), 0);
        Check.same("23: of the first message", x.oldestKey(0), 0);
    }

    /** "many 1 to 99"; "It increases by 1 before a message is sent if many messages have been sent with the present key" */
    private static void manyLimits() {
        for (int many : new int[] {1, 2, 98, 99}) {
            PeerOverlay x = open(SLOW_RELAY + "keys " + many + ";");
            x.run(2);
            for (int number = 0; number < 120; number++) {
                Check.same("22: before message " + number + " of " + many, x.key(0), Math.max(0, number - 1) / many);
                x.send(0, number);
                Check.same("22: of message " + number, x.key(0), number / many);
                if (number % 24 == 23) {
                    x.run(5);
                }
            }
        }
    }

    /** The key increases when the next message is sent, not when the last one of many was. */
    private static void keyBeforeAMessage() {
        PeerOverlay x = open(WAITING + "keys 3;");
        for (int number = 0; number < 3; number++) {
            x.send(0, number);
            Check.same("22: still the first", x.key(0), 0);
            Check.same("24: its start", x.keyStart(0), 0);
        }
        x.run(5);
        Check.same("22: time changes nothing", x.key(0), 0);
        x.send(0, 3);
        Check.same("22: the next", x.key(0), 1);
        Check.same("24: its start", x.keyStart(0), 3);
    }

    /** "it increases by 1 when the path of the session changes" */
    private static void keyOfAChangedPath() {
        PeerOverlay x = open(THREE + "peer 1 1; knows 0 3; knows 1 3; link 0 1 5; link 0 2 20; link 2 1 10; link 0 3 30; link 3 1 30; probe 2 1;");
        x.send(0, 1);
        x.run(2);
        Check.same("16: from a relay to direct", x.path(0), 100);
        Check.same("22: one more", x.key(0), 1);
        x.send(0, 2);
        x.setLink(0, 1, false);
        Check.same("16: from direct to a relay", x.path(0), 3);
        Check.same("22: one more again", x.key(0), 2);
        x.send(0, 3);
        x.run(28);
        x.setLink(0, 3, false);
        Check.same("16: from a relay to another", x.path(0), 2);
        Check.same("22: and again", x.key(0), 3);
    }

    /** "if at least one message has been sent with the present key" */
    private static void noKeyWithoutMessage() {
        PeerOverlay x = open(SLOW_RELAY);
        x.run(2);
        Check.same("16: direct", x.path(0), 100);
        Check.same("22: none was sent", x.key(0), 0);
        x.setLink(0, 1, false);
        Check.same("16: the relay", x.path(0), 2);
        Check.same("22: none was sent at all", x.key(0), 0);
        x.send(0, 1);
        x.setLink(0, 2, false);
        Check.same("22: one was sent", x.key(0), 1);
        x.setLink(0, 2, true);
        x.run(1);
        Check.same("16: from none", x.path(0), 2);
        Check.same("22: none with key 1", x.key(0), 1);
        x.setLink(0, 2, false);
        Check.same("22: still none", x.key(0), 1);
    }

    /** A changed path takes the next key; what was sent before does not count for it. */
    private static void pathChangeWhenManyWereSent() {
        PeerOverlay x = open(SLOW_RELAY + "keys 2;");
        x.send(0, 1);
        x.send(0, 2);
        x.run(2);
        Check.same("22: by the path", x.key(0), 1);
        x.send(0, 3);
        Check.same("22: not once more", x.key(0), 1);
        Check.same("24: its first message", x.keyStart(0), 2);
        x.send(0, 4);
        Check.same("22: two with key 1", x.key(0), 1);
        x.send(0, 5);
        Check.same("22: the third has key 2", x.key(0), 2);
        Check.same("24: its first message", x.keyStart(0), 4);
    }

    /** "(also to none or from none)" */
    private static void keyToAndFromNone() {
        PeerOverlay x = open(SLOW_RELAY);
        x.send(0, 1);
        x.setLink(1, 2, false);
        Check.same("16: from a relay to none", x.path(0), -1);
        Check.same("22: to none", x.key(0), 1);
        x.send(0, 2);
        x.setLink(1, 2, true);
        x.run(1);
        Check.same("16: from none to a relay", x.path(0), 2);
        Check.same("22: from none", x.key(0), 2);
        x.send(0, 3);
        x.setLink(0, 2, false);
        Check.same("22: to none again", x.key(0), 3);
        x.send(0, 4);
        x.run(1);
        Check.same("16: from none to direct", x.path(0), 100);
        Check.same("22: from none to direct", x.key(0), 4);
        x.send(0, 5);
        x.setLink(0, 1, false);
        Check.same("16: from direct to none", x.path(0), -1);
        Check.same("22: from direct to none", x.key(0), 5);
    }

    /** A path that stays keeps its key, even if the old path goes. */
    private static void keyOfOtherLinks() {
        PeerOverlay x = open(SLOW_RELAY);
        x.send(0, 1);
        x.run(2);
        x.send(0, 2);
        Check.same("22: direct", x.key(0), 1);
        Check.same("31: what was on the old path", x.setLink(0, 2, false), 1);
        Check.same("17: it is gone", x.oldPath(0), -1);
        Check.same("22: no other key", x.key(0), 1);
        x.setLink(0, 2, true);
        x.run(20);
        Check.same("22: still", x.key(0), 1);
    }

    /** "given when it is sent (and kept if it travels again)" */
    private static void keyIsKept() {
        PeerOverlay x = open(SLOW_RELAY);
        x.send(0, 1);
        x.setLink(0, 2, false);
        Check.same("23: while it waits", x.oldestKey(0), 0);
        x.setLink(0, 2, true);
        x.run(1);
        Check.same("23: when it travels again", x.oldestKey(0), 0);
        x.send(0, 2);
        x.run(1);
        Check.same("22: direct now", x.key(0), 2);
        Check.same("31: it moves to the direct path", x.setLink(2, 1, false), 2);
        Check.same("23: its key stays", x.oldestKey(0), 0);
        x.run(4);
        Check.same("23: until it is delivered", x.oldestKey(0), 0);
        x.run(1);
        Check.same("23: then the present one is needed", x.oldestKey(0), 2);
    }

    /** "that of the first message that has not been delivered"; "the present key if all messages have been delivered" */
    private static void oldestKeyLimits() {
        PeerOverlay x = open(SLOW_RELAY + "keys 1;");
        Check.same("23: none was sent", x.oldestKey(0), 0);
        x.run(2);
        x.send(0, 1);
        x.run(1);
        x.send(0, 2);
        x.run(1);
        x.send(0, 3);
        Check.same("23: the first", x.oldestKey(0), 0);
        x.run(3);
        Check.same("23: the second", x.oldestKey(0), 1);
        x.run(1);
        Check.same("23: the third", x.oldestKey(0), 2);
        x.run(1);
        Check.same("23: all are delivered", x.oldestKey(0), 2);
        x.setLink(0, 1, false);
        Check.same("22: another path", x.key(0), 3);
        Check.same("23: the present key", x.oldestKey(0), 3);
        PeerOverlay kept = open(SLOW_RELAY + "keys 1;");
        kept.send(0, 1);
        kept.run(2);
        kept.send(0, 2);
        kept.run(27);
        Check.same("19: one is kept", kept.messages(0, 2), 1);
        Check.same("23: that of the one before is needed", kept.oldestKey(0), 0);
    }

    /** "the number; if no message has been sent with this key, that of the next message that will be sent" */
    private static void keyStartLimits() {
        PeerOverlay x = open(SLOW_RELAY + "keys 2;");
        Check.same("24: none was sent", x.keyStart(0), 0);
        x.send(0, 1);
        Check.same("24: the first message", x.keyStart(0), 0);
        x.send(0, 2);
        Check.same("24: with two", x.keyStart(0), 0);
        x.run(2);
        Check.same("22: by the path", x.key(0), 1);
        Check.same("24: the next that will be sent", x.keyStart(0), 2);
        Check.same("30: that number", x.send(0, 3), 2);
        Check.same("24: it stays", x.keyStart(0), 2);
        x.run(40);
        Check.same("24: also when all are delivered", x.keyStart(0), 2);
    }
}
