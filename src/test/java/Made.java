/** Archives that many tests begin with. */
final class Made {
    static final String FULL = "archive;repeat 12(clip 99999999;);repeat 4(reel 9;);repeat 5(scene 9;);";

    private Made() {
    }

    static ClipHibernation empty() {
        return Typed.made("archive;");
    }

    /** Twelve clips, four reels of nine beds and five scenes with nine springs; everybody is awake. */
    static ClipHibernation full() {
        return Typed.made(FULL);
    }

    /** The archive of a new object, with something in all that a call could spoil. */
    static ClipHibernation rich() {
        ClipHibernation x = new ClipHibernation();
        x.addFood(1);
        x.saveSnapshot();
        x.addFood(2);
        x.writeReel(1);
        Typed.run(x, "archive;clip 0;");
        Typed.type(x, "archive;clip 77;");
        return x;
    }

    /** A clip of colour 1 in each of the beds of a reel, in the order of its way, which begins at bed 1 % beds. */
    static ClipHibernation crowd(int clips, int beds, String more) {
        StringBuilder script = new StringBuilder("archive;repeat 12(clip 1;);reel ").append(beds).append(';');
        for (int clip = 0; clip < clips; clip++) {
            script.append("sleep ").append(clip).append(" 0;");
        }
        return Typed.made(script.append(more).toString());
    }

    /** The rule of the terms, by which tests know what is due. */
    static int hash(String colours) {
        int hash = 0;
        for (char colour : colours.toCharArray()) {
            hash = (31 * hash + colour - '0') % 997;
        }
        return hash;
    }
}
