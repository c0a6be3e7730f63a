/** Promises 28 and 31: introduce and setLink. */
public final class LinksTest {
    private static final String FIVE = "peer 9 1; peer 9 1; peer 9 1; peer 9 1; peer 9 1;"
            + "link 0 1 10; link 0 2 3; link 2 1 4; link 0 3 5; link 3 1 6; link 0 4 30; link 4 1 30;"
            + "knows 0 1; knows 0 2; knows 1 2; knows 0 3; knows 1 3; probe 1 1;";

    private LinksTest() {
    }

    public static void main(String[] args) {
        introducing();
        introduceRefuses();
        linkRefuses();
        messagesMove();
        oldPathGoes();
        otherRelaysMessagesMove();
        loadsInTurn();
        upChangesNothingElse();
        Check.finish();
    }

    private static void introducing() {
        PeerOverlay x = Check.overlay("peer 1 1;".repeat(5) + "knows 0 1; knows 1 2; knows 1 3; knows 0 4;");
        Check.same("28: what 0 knows then", x.introduce(1, 0, 2), 3);
        Check.yes("28: mutual", x.knows(2, 0));
        Check.same("28: what 3 knows then", x.introduce(1, 3, 0), 2);
        Check.yes("28: mutual again", x.knows(0, 3));
        Check.no("28: no others", x.knows(2, 3));
        Check.same("33: it is a change", x.undo(), 1);
        Check.no("33: undone", x.knows(0, 3));
    }

    private static void introduceRefuses() {
        PeerOverlay x = Check.overlay("peer 1 1;".repeat(4) + "knows 0 1; knows 1 2; knows 0 2;");
        Check.badState("28: they know each other", () -> x.introduce(1, 0, 2));
        Check.badState("28: the peer does not know b", () -> x.introduce(1, 0, 3));
        Check.badState("28: the peer does not know a", () -> x.introduce(1, 3, 0));
        Check.badArgument("28: peer and a", () -> x.introduce(1, 1, 2));
        Check.badArgument("28: peer and b", () -> x.introduce(1, 2, 1));
        Check.badArgument("28: a and b", () -> x.introduce(1, 2, 2));
        for (int bad : new int[] {-1, 4, Integer.MIN_VALUE, Integer.MAX_VALUE}) {
            Check.outside("28: peer " + bad, () -> x.introduce(bad, 0, 0));
            Check.outside("28: a " + bad, () -> x.introduce(0, bad, 0));
            Check.outside("28: b " + bad, () -> x.introduce(0, 0, bad));
        }
        Check.same("28: no changes", x.undo(), -1);
    }

    private static void linkRefuses() {
        PeerOverlay x = Check.overlay(FIVE);
        Check.badState("31: no link", () -> x.setLink(2, 3, true));
        Check.badState("31: no link to take down", () -> x.setLink(2, 3, false));
        Check.badState("31: up already", () -> x.setLink(0, 1, true));
        Check.badArgument("31: the same", () -> x.setLink(1, 1, false));
        for (int bad : new int[] {-1, 5, Integer.MIN_VALUE, Integer.MAX_VALUE}) {
            Check.outside("31: a " + bad, () -> x.setLink(bad, bad, false));
            Check.outside("31: b " + bad, () -> x.setLink(0, bad, false));
        }
        Check.same("31: down", x.setLink(0, 1, false), 0);
        Check.badState("31: down already", () -> x.setLink(1, 0, false));
        Check.same("31: two", x.undo(), 0);
    }

    private static void messagesMove() {
        PeerOverlay x = Check.overlay(FIVE);
        x.open(0, 1);
        x.send(0, 1);
        x.send(0, 2);
        Check.same("31: both begin anew", x.setLink(0, 2, false), 2);
        Check.same("16: the next best", x.path(0), 3);
        Check.same("25: 5 + 6", x.ticksToDeliver(0), 11);
        Check.same("31: both wait", x.setLink(3, 1, false), 2);
        Check.same("16: 4 knows nobody", x.path(0), -1);
        Check.same("19: waiting", x.messages(0, 0), 2);
        Check.same("31: those that wait don't count", x.setLink(0, 3, false), 0);
        x.run(1);
        Check.same("16: direct by the probe", x.path(0), 100);
        x.run(4);
        Check.same("31: from the direct path", x.setLink(1, 0, false), 2);
        Check.same("19: they wait again", x.messages(0, 0), 2);
        x.setLink(0, 1, true);
        x.run(5);
        x.send(0, 3);
        x.setLink(2, 0, true);
        Check.same("31: all travel on the direct path", x.setLink(0, 1, false), 3);
        Check.same("25: anew over 2", x.ticksToDeliver(0), 7);
        Check.same("31: a link of no session", x.setLink(0, 4, false), 0);
        x.setLink(0, 4, true);
        Check.same("31: the other way", x.setLink(4, 0, false), 0);
        Check.same("31: with the receiver", x.setLink(1, 4, false), 0);
        x.setLink(1, 4, true);
        Check.same("31: with the receiver, the other way", x.setLink(4, 1, false), 0);
        Check.same("16: the path stays", x.path(0), 2);
        x.setLink(1, 3, true);
        Check.same("31: of another relay", x.setLink(3, 1, false), 0);
        Check.same("19: all travel", x.messages(0, 1), 3);
    }

    private static void oldPathGoes() {
        PeerOverlay x = Check.overlay(FIVE);
        x.open(0, 1);
        x.send(0, 1);
        x.run(1);
        x.send(0, 2);
        Check.same("17: an old path", x.oldPath(0), 2);
        Check.same("31: what travels over it", x.setLink(2, 1, false), 1);
        Check.same("17: no old path", x.oldPath(0), -1);
        Check.same("16: the path stays", x.path(0), 100);
        Check.same("22: so does the key", x.key(0), 1);
        Check.same("25: along the present path", x.ticksToDeliver(0), 10);
        Check.same("11: no load", x.load(2), 0);
    }

    /** A message may still travel over a relay that is neither path nor old path. */
    private static void otherRelaysMessagesMove() {
        PeerOverlay x = Check.overlay(FIVE);
        x.open(0, 1);
        x.send(0, 1);
        x.run(1);
        x.setLink(0, 1, false);
        Check.same("16: 7 + 10 against 11", x.path(0), 3);
        x.send(0, 2);
        x.setLink(0, 1, true);
        x.run(1);
        Check.same("17: in place of 2", x.oldPath(0), 3);
        Check.same("31: the message over 2", x.setLink(0, 2, false), 1);
        Check.same("17: stays", x.oldPath(0), 3);
        Check.same("31: the message over 3", x.setLink(3, 1, false), 1);
        Check.same("17: gone", x.oldPath(0), -1);
        Check.same("19: both travel", x.messages(0, 1), 2);
    }

    private static void loadsInTurn() {
        PeerOverlay x = Check.overlay("peer 9 1; peer 9 1; peer 1 1; peer 1 1; link 0 1 9; link 0 2 5; link 2 1 5; link 0 3 7; link 3 1 7;"
                + "knows 0 1; knows 0 2; knows 1 2; knows 0 3; knows 1 3; probe 1 1;");
        x.open(0, 1);
        x.open(1, 0);
        x.run(1);
        x.send(0, 1);
        x.send(1, 1);
        Check.same("31: of all sessions", x.setLink(0, 1, false), 2);
        Check.same("16: the first takes the best", x.path(0), 2);
        Check.same("16: the second the next", x.path(1), 3);
        Check.same("31: no place is left", x.setLink(0, 3, false), 1);
        Check.same("16: none", x.path(1), -1);
        Check.same("31: the other goes, too", x.setLink(0, 2, false), 1);
        x.setLink(0, 2, true);
        x.run(1);
        Check.same("16: the first is served first", x.path(0), 2);
        Check.same("16: then the second", x.path(1), -1);
    }

    private static void upChangesNothingElse() {
        PeerOverlay x = Check.overlay(FIVE);
        x.setLink(0, 1, false);
        x.setLink(0, 2, false);
        x.setLink(0, 3, false);
        x.open(0, 1);
        x.send(0, 1);
        Check.same("31: up", x.setLink(2, 0, true), 0);
        Check.same("16: still none", x.path(0), -1);
        Check.same("19: it waits", x.messages(0, 0), 1);
        x.run(1);
        Check.same("16: in the tick", x.path(0), 2);
        Check.same("31: a better relay is no reason", x.setLink(0, 3, true), 0);
        Check.same("16: the path stays", x.path(0), 2);
    }
}
