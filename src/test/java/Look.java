/** All that can be seen of an archive and that undo restores, as one text. */
final class Look {
    private Look() {
    }

    static String at(ClipHibernation x) {
        StringBuilder text = new StringBuilder();
        text.append("week ").append(x.week()).append(" food ").append(x.food());
        text.append(" burned ").append(x.burnedFat()).append(" wakings ").append(x.wakings());
        text.append(" violations ").append(x.violations()).append('\n');
        for (int clip = 0; clip < x.clipCount(); clip++) {
            text.append("clip ").append(x.colours(clip)).append(" state ").append(x.state(clip));
            text.append(" fat ").append(x.fat(clip)).append(" hash ").append(x.hash(clip));
            text.append(" in ").append(x.reelOf(clip)).append('/').append(x.bedOf(clip));
            text.append(" scene ").append(x.sceneOf(clip)).append('\n');
        }
        for (int reel = 0; reel < x.reelCount(); reel++) {
            text.append("reel");
            for (int bed = 0; bed < x.bedCount(reel); bed++) {
                text.append(' ').append(x.bed(reel, bed));
            }
            text.append('\n');
        }
        for (int scene = 0; scene < x.sceneCount(); scene++) {
            text.append("scene ").append(x.springs(scene)).append('\n');
        }
        return text.toString();
    }

    static String report(ClipHibernation x) {
        StringBuilder text = new StringBuilder();
        for (int index = 0; x.reportByte(index) != ClipHibernation.NONE; index++) {
            text.append((char) x.reportByte(index));
        }
        return text.toString();
    }
}
