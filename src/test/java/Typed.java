import java.nio.charset.StandardCharsets;

/** Brings texts into the input buffer, which takes 20 bytes at a time. */
final class Typed {
    private Typed() {
    }

    /** Texts longer than 600 bytes do not fit. */
    static void type(ClipHibernation x, String text) {
        byte[] bytes = text.getBytes(StandardCharsets.ISO_8859_1);
        byte[] padded = new byte[(bytes.length + 19) / 20 * 20];
        System.arraycopy(bytes, 0, padded, 0, bytes.length);
        int length = x.truncateInput(0);
        for (int at = 0; at < padded.length; at += 20) {
            length = x.append(word(padded, at), word(padded, at + 4), word(padded, at + 8),
                    word(padded, at + 12), word(padded, at + 16));
        }
        if (length != padded.length || x.truncateInput(bytes.length) != bytes.length) {
            throw new IllegalStateException("the input buffer did not take " + text);
        }
    }

    static int run(ClipHibernation x, String text) {
        type(x, text);
        return x.runScript();
    }

    /** A new object with the archive that the script makes. */
    static ClipHibernation made(String script) {
        ClipHibernation x = new ClipHibernation();
        if (run(x, script) == ClipHibernation.NONE) {
            throw new IllegalStateException(x.scriptErrorKind() + " at " + x.scriptErrorOffset() + " of " + script);
        }
        return x;
    }

    private static int word(byte[] bytes, int at) {
        return (bytes[at] & 255) << 24 | (bytes[at + 1] & 255) << 16 | (bytes[at + 2] & 255) << 8 | bytes[at + 3] & 255;
    }
}
