import java.util.function.Supplier;

/** Calls with numbers that are just wrong, and far wrong, in archives of three sizes. */
final class Wrong {
    static final Class<IndexOutOfBoundsException> NO_SUCH = IndexOutOfBoundsException.class;
    static final Class<IllegalArgumentException> BAD = IllegalArgumentException.class;
    static final Class<IllegalStateException> REFUSED = IllegalStateException.class;
    static final int LEAST = Integer.MIN_VALUE;
    static final int GREATEST = Integer.MAX_VALUE;

    interface Call {
        void make(ClipHibernation x, int number);
    }

    private Wrong() {
    }

    static void refuses(Check check, String name, Class<? extends Exception> want, Supplier<ClipHibernation> maker, Call call,
            int... numbers) {
        for (int number : numbers) {
            Twins.refuses(check, name + " with " + number, want, maker, x -> call.make(x, number));
        }
    }

    /** Of five clips, of twelve, of none. */
    static void clip(Check check, String name, Call call) {
        refuses(check, name, NO_SUCH, Made::rich, call, LEAST, -1, 5, GREATEST);
        refuses(check, name + " of 12 clips", NO_SUCH, Made::full, call, -1, 12);
        refuses(check, name + " without clips", NO_SUCH, Made::empty, call, -1, 0);
    }

    /** Of two reels, of four, of none. */
    static void reel(Check check, String name, Call call) {
        refuses(check, name, NO_SUCH, Made::rich, call, LEAST, -1, 2, GREATEST);
        refuses(check, name + " of 4 reels", NO_SUCH, Made::full, call, -1, 4);
        refuses(check, name + " without reels", NO_SUCH, () -> Typed.made("archive;clip 1;"), call, -1, 0);
    }

    /** Of two scenes, of five, of none. */
    static void scene(Check check, String name, Call call) {
        refuses(check, name, NO_SUCH, Made::rich, call, LEAST, -1, 2, GREATEST);
        refuses(check, name + " of 5 scenes", NO_SUCH, Made::full, call, -1, 5);
        refuses(check, name + " without scenes", NO_SUCH, Made::empty, call, -1, 0);
    }

    static void pattern(Check check, String name, Call call) {
        range(check, name, call, 1, 9999);
    }

    static void range(Check check, String name, Call call, int least, int greatest) {
        refuses(check, name, BAD, Made::rich, call, LEAST, -1, least - 1, greatest + 1, GREATEST);
    }
}
