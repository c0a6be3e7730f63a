import java.nio.charset.StandardCharsets;
import java.util.Arrays;

/** What all tests share: counting wrong answers, and feeding texts into an overlay. */
final class Check {
    /** A call that may throw. */
    interface Call {
        void make();
    }

    private static int wrong = 0;

    private Check() {
    }

    static void same(String what, long got, long want) {
        if (got != want) {
            report(what + " answered " + got + ", due is " + want);
        }
    }

    static void yes(String what, boolean got) {
        if (!got) {
            report(what + " is not so");
        }
    }

    static void no(String what, boolean got) {
        yes("not: " + what, !got);
    }

    /** The class must be the very one: a subclass would have been thrown by the machine. */
    static void refused(String what, Class<?> due, Call call) {
        Class<?> got = null;
        try {
            call.make();
        } catch (RuntimeException thrown) {
            got = thrown.getClass();
        }
        if (got != due) {
            report(what + " threw " + got + ", due is " + due);
        }
    }

    static void outside(String what, Call call) {
        refused(what, IndexOutOfBoundsException.class, call);
    }

    static void badArgument(String what, Call call) {
        refused(what, IllegalArgumentException.class, call);
    }

    static void badState(String what, Call call) {
        refused(what, IllegalStateException.class, call);
    }

    static void report(String line) {
        wrong++;
        System.out.println(line);
    }

    static void finish() {
        if (wrong != 0) {
            System.out.println(wrong + " checks failed");
            System.exit(1);
        }
    }

    /** Appends a text, filled up with spaces to a multiple of 20 bytes; returns its own length. */
    static int feed(PeerOverlay overlay, String text) {
        return feedBytes(overlay, text.getBytes(StandardCharsets.ISO_8859_1));
    }

    static int feedBytes(PeerOverlay overlay, byte[] text) {
        byte[] filled = Arrays.copyOf(text, (text.length + 19) / 20 * 20);
        Arrays.fill(filled, text.length, filled.length, (byte) ' ');
        for (int at = 0; at < filled.length; at += 20) {
            overlay.append(four(filled, at), four(filled, at + 4), four(filled, at + 8),
                    four(filled, at + 12), four(filled, at + 16));
        }
        return text.length;
    }

    private static int four(byte[] bytes, int at) {
        return (bytes[at] & 255) << 24 | (bytes[at + 1] & 255) << 16 | (bytes[at + 2] & 255) << 8 | bytes[at + 3] & 255;
    }

    static int parse(PeerOverlay overlay, String text) {
        return overlay.parse(feed(overlay, text));
    }

    static PeerOverlay overlay(String text) {
        PeerOverlay overlay = new PeerOverlay();
        same("parse of " + text, parse(overlay, text), 0);
        return overlay;
    }

    /** A parse that must fail with this code at this position. */
    static void faulty(String text, int code, int position) {
        PeerOverlay overlay = new PeerOverlay();
        same("code of " + text, parse(overlay, text), code);
        same("position in " + text, overlay.errorPosition(), position);
    }
}
