/** Promises 2 and 3: append and truncateInput. */
public final class InputTest {
    public static void main(String[] args) {
        Check check = new Check();
        bytesStandInOrder(check);
        bufferEndsAt600(check);
        truncating(check);
        check.end();
    }

    private static void bytesStandInOrder(Check check) {
        ClipHibernation x = new ClipHibernation();
        // "archive;clip 123;   "
        check.due("append", x.append(0x61726368, 0x6976653B, 0x636C6970, 0x20313233, 0x3B202020), 20);
        check.due("runScript()", x.runScript(), 1);
        check.due("colours(0)", x.colours(0), 123);
        for (int place = 0; place < 20; place++) {
            int[] words = {0x20202020, 0x20202020, 0x20202020, 0x20202020, 0x20202020};
            words[place / 4] ^= (0x20 ^ 0xC3) << 8 * (3 - place % 4);
            x.append(words[0], words[1], words[2], words[3], words[4]);
            check.due("runScript() with a wrong byte at " + place, x.runScript(), -1);
            check.due("scriptErrorOffset()", x.scriptErrorOffset(), place);
        }
    }

    private static void bufferEndsAt600(Check check) {
        ClipHibernation x = new ClipHibernation();
        for (int length = 20; length <= 600; length += 20) {
            check.due("append to " + length, x.append(0x20202020, 0x20202020, 0x20202020, 0x20202020, 0x20202020), length);
        }
        check.due("append to 620", x.append(1, 2, 3, 4, 5), -1);
        check.due("truncateInput(600)", x.truncateInput(600), 600);
        check.due("truncateInput(581)", x.truncateInput(581), 581);
        check.due("append to 601", x.append(1, 2, 3, 4, 5), -1);
        check.due("truncateInput(580)", x.truncateInput(580), 580);
        check.due("append to 600 again", x.append(0x61726368, 0x6976653B, 0x636C6970, 0x20313233, 0x3B202020), 600);
        check.due("append to 620 again", x.append(1, 2, 3, 4, 5), -1);
        check.due("runScript() of 600 bytes", x.runScript(), 1);
        check.due("truncateInput(0) after a script", x.truncateInput(0), 0);
        check.due("append to the empty buffer", x.append(0, 0, 0, 0, 0), 20);
    }

    private static void truncating(Check check) {
        ClipHibernation x = new ClipHibernation();
        check.refuses("truncateInput(1)", IllegalArgumentException.class, x, () -> x.truncateInput(1));
        x.append(0, 0, 0, 0, 0);
        check.refuses("truncateInput(21)", IllegalArgumentException.class, x, () -> x.truncateInput(21));
        check.refuses("truncateInput(-1)", IllegalArgumentException.class, x, () -> x.truncateInput(-1));
        check.refuses("truncateInput(least int)", IllegalArgumentException.class, x,
                () -> x.truncateInput(Integer.MIN_VALUE));
        check.refuses("truncateInput(greatest int)", IllegalArgumentException.class, x,
                () -> x.truncateInput(Integer.MAX_VALUE));
        check.due("truncateInput(20)", x.truncateInput(20), 20);
        check.due("truncateInput(7)", x.truncateInput(7), 7);
        check.refuses("truncateInput(8)", IllegalArgumentException.class, x, () -> x.truncateInput(8));
        check.due("append behind 7 bytes", x.append(0, 0, 0, 0, 0), 27);
        check.due("undoCount()", x.undoCount(), 0);

        // what was cut off is overwritten: "archive;clip 1", then "2;reel 3;" and spaces
        x.truncateInput(0);
        x.append(0x61726368, 0x6976653B, 0x636C6970, 0x20313939, 0x39393939);
        x.truncateInput(14);
        check.due("append behind 14 bytes", x.append(0x323B7265, 0x656C2033, 0x3B202020, 0x20202020, 0x20202020), 34);
        check.due("runScript()", x.runScript(), 1);
        check.due("colours(0)", x.colours(0), 12);
        check.due("bedCount(0)", x.bedCount(0), 3);
    }
}
