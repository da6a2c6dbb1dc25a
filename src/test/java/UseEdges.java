/** The sentences of "What it is" and "Not promised": the only boundary there is an object's 512th call. */
final class UseEdges {
    private static final int LAST_CALL = 512;

    private UseEdges() {
    }

    static void tell(Sentences s) {
        int first = Sentences.WHAT_IT_IS;
        s.noEdge(first, "An archive in which film clips hibernate: sleeping clips lie in the beds of reels by their hashes, cuts "
                + "of scenes wake the clips whose colours match, and clips live on their fat.");
        s.of(first, "An object is used for at most 512 calls after it has been made; what later calls answer is free.",
                UseEdges::changesToTheLastCall);
        int last = Sentences.NOT_PROMISED;
        s.noEdge(last, "How the state is held inside the object is free, as are the speed of each call, the text of toString and "
                + "the behaviour of equals and hashCode.",
                "Use of one object from several threads at once is not promised to be safe.");
        s.of(last, "Nothing is promised beyond the answers and state changes described above, and nothing about an object after "
                + "its 512th call.", UseEdges::scriptsToTheLastCall);
    }

    private static void changesToTheLastCall(Check check) {
        ClipHibernation x = new ClipHibernation();
        int call = 0;
        while (call < LAST_CALL - 11) {
            call++;
            check.due("addFood(3) as call " + call, x.addFood(3), 80 + 3 * call);
        }
        int food = 80 + 3 * call;
        check.due("undoCount()", x.undoCount(), 8);
        for (int left = 7; left >= 0; left--) {
            check.due("undo()", x.undo(), left);
        }
        check.due("food() as call 511", x.food(), food - 8 * 3);
        check.due("undo() as call 512", x.undo(), -1);
    }

    /** 17 rounds of 30 calls: 28 that append, one that cuts, one that runs. */
    private static void scriptsToTheLastCall(Check check) {
        ClipHibernation x = new ClipHibernation();
        int call = 0;
        while (call + 30 <= LAST_CALL) {
            call += 30;
            check.due("append", x.append(0x61726368, 0x6976653B, 0x636C6970, 0x20313233, 0x3B202020), 20);
            for (int filled = 40; filled <= 560; filled += 20) {
                check.due("append", x.append(0x636C6970, 0x20202020, 0x20202020, 0x20202020, 0x20202039), filled);
            }
            check.due("truncateInput(20)", x.truncateInput(20), 20);
            check.due("runScript() as call " + call, x.runScript(), 1);
        }
        check.due("clipCount() as call 511", x.clipCount(), 1);
        check.due("undoCount() as call 512", x.undoCount(), 8);
    }
}
