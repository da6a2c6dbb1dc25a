/** Promises 2 and 3: append and truncateInput. */
public final class InputTest {
    public static void main(String[] args) {
        Check check = new Check();
        bytesStandInOrder(check);
        bufferEndsAt600(check);
        truncating(check);
        cutOffTokens(check);
        check.end();
    }

    private static void dueError(Check check, ClipHibernation x, String what, int offset) {
        check.due("runScript() " + what, x.runScript(), -1);
        check.due("scriptErrorKind() " + what, x.scriptErrorKind(), 1);
        check.due("scriptErrorOffset() " + what, x.scriptErrorOffset(), offset);
    }

    /** A token ends where the text ends, whatever was behind it before. */
    private static void cutOffTokens(Check check) {
        ClipHibernation x = new ClipHibernation();
        Typed.type(x, "archive;weeksx");
        x.truncateInput(13);
        dueError(check, x, "of a word cut off", 13);
        Typed.type(x, "archive;food 12;");
        x.truncateInput(14);
        dueError(check, x, "of a number cut off", 14);
        Typed.type(x, "archive;food 1;");
        x.truncateInput(14);
        dueError(check, x, "without the last semicolon", 14);
        Typed.type(x, "archive;" + " ".repeat(587) + "weeks");
        dueError(check, x, "with a word up to byte 600", 600);
        Typed.type(x, "archive;food " + " ".repeat(579) + "12345678");
        check.due("runScript() with a number up to byte 600", x.runScript(), -1);
        check.due("scriptErrorKind()", x.scriptErrorKind(), 2);
        check.due("scriptErrorOffset()", x.scriptErrorOffset(), 592);
        Typed.type(x, "archive;food " + " ".repeat(586) + "1");
        dueError(check, x, "with a digit at byte 600", 600);
        Typed.type(x, "archive;food 1;" + " ".repeat(585));
        check.due("runScript() with spaces up to byte 600", x.runScript(), 0);
        Typed.type(x, "archive;" + "1".repeat(592));
        dueError(check, x, "with a run of 592 digits", 8);
        Typed.type(x, "archive;food " + "4294967297" + ";");
        dueError(check, x, "with a number beyond int", 13);
        Typed.type(x, "a".repeat(600));
        dueError(check, x, "with a word of 600 letters", 0);
    }

    private static void bytesStandInOrder(Check check) {
        ClipHibernation x = new ClipHibernation();
        // "archive;clip 123;   "
        check.due("append", x.append(0x61726368, 0x6976653B, 0x636C6970, 0x20313233, 0x3B202020), 20);
        check.due("runScript()", x.runScript(), 1);
        check.due("colours(0)", x.colours(0), 123);
        for (int place = 0; place < 20; place++) {
            int[] words = {0x20202020, 0x20202020, 0x20202020, 0x20202020, 0x20202020};
            words[place / 4] ^= (0x20 ^ 0xC3) << 8 * (3 - place % 4);
            x.append(words[0], words[1], words[2], words[3], words[4]);
            check.due("runScript() with a wrong byte at " + place, x.runScript(), -1);
            check.due("scriptErrorOffset()", x.scriptErrorOffset(), place);
        }
    }

    private static void bufferEndsAt600(Check check) {
        ClipHibernation x = new ClipHibernation();
        for (int length = 20; length <= 600; length += 20) {
            check.due("append to " + length, x.append(0x20202020, 0x20202020, 0x20202020, 0x20202020, 0x20202020), length);
        }
        check.due("append to 620", x.append(1, 2, 3, 4, 5), -1);
        check.due("truncateInput(600)", x.truncateInput(600), 600);
        check.due("truncateInput(581)", x.truncateInput(581), 581);
        check.due("append to 601", x.append(1, 2, 3, 4, 5), -1);
        check.due("truncateInput(580)", x.truncateInput(580), 580);
        check.due("append to 600 again", x.append(0x61726368, 0x6976653B, 0x636C6970, 0x20313233, 0x3B202020), 600);
        check.due("append to 620 again", x.append(1, 2, 3, 4, 5), -1);
        check.due("runScript() of 600 bytes", x.runScript(), 1);
        check.due("truncateInput(0) after a script", x.truncateInput(0), 0);
        check.due("append to the empty buffer", x.append(0, 0, 0, 0, 0), 20);
    }

    private static void truncating(Check check) {
        ClipHibernation x = new ClipHibernation();
        check.refuses("truncateInput(1)", IllegalArgumentException.class, x, () -> x.truncateInput(1));
        x.append(0, 0, 0, 0, 0);
        check.refuses("truncateInput(21)", IllegalArgumentException.class, x, () -> x.truncateInput(21));
        check.refuses("truncateInput(-1)", IllegalArgumentException.class, x, () -> x.truncateInput(-1));
        check.refuses("truncateInput(least int)", IllegalArgumentException.class, x,
                () -> x.truncateInput(Integer.MIN_VALUE));
        check.refuses("truncateInput(greatest int)", IllegalArgumentException.class, x,
                () -> x.truncateInput(Integer.MAX_VALUE));
        check.due("truncateInput(20)", x.truncateInput(20), 20);
        check.due("truncateInput(7)", x.truncateInput(7), 7);
        check.refuses("truncateInput(8)", IllegalArgumentException.class, x, () -> x.truncateInput(8));
        check.due("append behind 7 bytes", x.append(0, 0, 0, 0, 0), 27);
        check.due("undoCount()", x.undoCount(), 0);

        // what was cut off is overwritten: "archive;clip 1", then "2;reel 3;" and spaces
        x.truncateInput(0);
        x.append(0x61726368, 0x6976653B, 0x636C6970, 0x20313939, 0x39393939);
        x.truncateInput(14);
        check.due("append behind 14 bytes", x.append(0x323B7265, 0x656C2033, 0x3B202020, 0x20202020, 0x20202020), 34);
        check.due("runScript()", x.runScript(), 1);
        check.due("colours(0)", x.colours(0), 12);
        check.due("bedCount(0)", x.bedCount(0), 3);
    }
}
