/** All that can be seen of an archive and that undo restores, as one text. */
final class Look {
    private Look() {
    }

    static String at(ClipHibernation x) {
        StringBuilder text = new StringBuilder();
        text.append("week ").append(x.week()).append(" food ").append(x.food());
        text.append(" burned ").append(x.burnedFat()).append(" wakings ").append(x.wakings());
        text.append(" violations ").append(x.violations()).append('\n');
        int clips = x.clipCount();
        for (int clip = 0; clip < clips; clip++) {
            text.append("clip ").append(x.colours(clip)).append(" state ").append(x.state(clip));
            text.append(" fat ").append(x.fat(clip)).append(" hash ").append(x.hash(clip));
            text.append(" in ").append(x.reelOf(clip)).append('/').append(x.bedOf(clip));
            text.append(" scene ").append(x.sceneOf(clip)).append('\n');
        }
        int reels = x.reelCount();
        for (int reel = 0; reel < reels; reel++) {
            text.append("reel");
            int beds = x.bedCount(reel);
            for (int bed = 0; bed < beds; bed++) {
                text.append(' ').append(x.bed(reel, bed));
            }
            text.append('\n');
        }
        int scenes = x.sceneCount();
        for (int scene = 0; scene < scenes; scene++) {
            text.append("scene ").append(x.springs(scene)).append('\n');
        }
        return text.toString();
    }

    /** What most changes would alter, in ten calls. */
    static String shortly(ClipHibernation x) {
        return x.week() + " " + x.food() + " " + x.clipCount() + " " + x.reelCount() + " " + x.sceneCount() + " "
                + x.burnedFat() + " " + x.wakings() + " " + x.meanFat() + " " + x.sleepShare() + " " + x.undoCount();
    }

    static String report(ClipHibernation x) {
        StringBuilder text = new StringBuilder();
        int index = 0;
        for (int sign = x.reportByte(0); sign != ClipHibernation.NONE; sign = x.reportByte(index)) {
            text.append((char) sign);
            index++;
        }
        return text.toString();
    }
}
