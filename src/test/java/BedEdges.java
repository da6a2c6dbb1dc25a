/** Promises 40 to 50 on beds, 62 and 63 on the report. */
final class BedEdges {
    private interface Asked {
        int of(ClipHibernation x, int number);
    }

    private BedEdges() {
    }

    static void tell(Sentences s) {
        s.noEdge(40, "Returns the number of beds of a reel.");
        tellReel(s, 40, "bedCount", (x, reel) -> x.bedCount(reel), 3, 5, 9, 9);
        s.of(40, "Returns the number of beds.", BedEdges::bedCounts);
        s.noEdge(41, "Returns what a bed is.");
        s.of(41, "`reel`: the number of a reel",
                check -> firstAndLast(check, "bed 0", (x, reel) -> x.bed(reel, 0), -2, -1, -1, -1));
        s.of(41, "`bed`: the number of a bed of the reel", BedEdges::firstAndLastBed);
        s.of(41, "Returns the number of the clip that sleeps in it, COLD or WARM.", BedEdges::whatABedIs);
        s.of(41, "Throws `IndexOutOfBoundsException` if `reel` or `bed` does not exist", BedEdges::noSuchBed);
        s.noEdge(42, "Returns the clips that sleep in a reel.");
        tellReel(s, 42, "sleepers", (x, reel) -> x.sleepers(reel), 1, 12, 0, 0);
        s.of(42, "Returns the set of these clips.", BedEdges::sleepers);
        s.noEdge(43, "Returns the home of a clip in a reel.");
        int nines = Made.hash("99999999") % 9;
        tellClipAndReel(s, 43, "home", (x, clip) -> x.home(clip, 1), 29 % 5, 9 % 5, nines, nines);
        s.of(43, "`reel`: the number of a reel",
                check -> firstAndLast(check, "home", (x, reel) -> x.home(4, reel), 0, 4, nines, nines));
        s.of(43, "Returns the number of the bed.", BedEdges::homes);
        tellGoingToSleep(s);
        tellLooks(s);
        tellReport(s);
    }

    private static void tellGoingToSleep(Sentences s) {
        int nines = Made.hash("99999999") % 9;
        s.of(44, "Returns why going to sleep would be refused.", BedEdges::whyNoSleep);
        tellClipAndReel(s, 44, "whyNoSleep", (x, clip) -> x.whyNoSleep(clip, 1), 1, 0, 0, 0);
        s.of(44, "`reel`: the number of a reel",
                check -> firstAndLast(check, "whyNoSleep", (x, reel) -> x.whyNoSleep(4, reel), 0, 0, 0, 0));
        s.of(44, "Returns ALLOWED or the reason.", BedEdges::allowedOrNot);
        s.noEdge(45, "Returns the bed in which a clip would go to sleep.");
        tellClipAndReel(s, 45, "bedFor", (x, clip) -> x.bedFor(clip, 1), -1, 4, nines, nines);
        s.of(45, "`reel`: the number of a reel",
                check -> firstAndLast(check, "bedFor", (x, reel) -> x.bedFor(4, reel), 0, 4, nines, nines));
        s.of(45, "Returns the number of the bed, or NONE if it would be refused.", BedEdges::bedsFor);
        s.of(50, "Returns the reel in which a clip would sleep nearest to its home.", BedEdges::nearestReel);
        s.of(50, "`clip`: the number of a clip", BedEdges::bestReelOfEachClip);
        s.of(50, "Returns the reel for which going to sleep would not be refused and the fewest beds of the way are passed, of "
                + "several the smallest one; NONE if there is none.", BedEdges::bestReels);
        s.of(50, "Throws `IndexOutOfBoundsException` if `clip` is not the number of a clip",
                check -> Wrong.clip(check, "bestReel", (x, number) -> x.bestReel(number)));
    }

    private static void tellLooks(Sentences s) {
        s.noEdge(46, "Returns how many beds are looked at to look for a clip in a reel.");
        tellClipAndReel(s, 46, "looksFor", (x, clip) -> x.looksFor(clip, 1), 1, 1, 1, 1);
        s.of(46, "`reel`: the number of a reel",
                check -> firstAndLast(check, "looksFor", (x, reel) -> x.looksFor(4, reel), 2, 1, 1, 1));
        s.of(46, "Returns the number of beds.", BedEdges::looksFor);
        s.of(47, "Returns the greatest number of beds that are looked at to look for a clip that sleeps in a reel.",
                BedEdges::longestLook);
        tellReel(s, 47, "longestLook", (x, reel) -> x.longestLook(reel), 1, 1, 0, 0);
        s.of(47, "Returns the number of beds, 0 if no clip sleeps there.", BedEdges::longestLookOfNobody);
        s.of(48, "Returns how many beds together would be looked at to look for each clip that sleeps in a reel if it was "
                + "aired.", BedEdges::looksIfAired);
        tellReel(s, 48, "looksIfAired", (x, reel) -> x.looksIfAired(reel), 1, 2, 0, 0);
        s.of(48, "Returns the number of beds.", BedEdges::fewestAndMostLooks);
        s.of(49, "Returns the greatest number of beds of a reel, one behind the other, that are not COLD; bed 0 is behind the "
                + "last bed.", BedEdges::clusters);
        tellReel(s, 49, "longestCluster", (x, reel) -> x.longestCluster(reel), 2, 1, 0, 0);
        s.of(49, "Returns the number of beds, at most all.", BedEdges::clusterOfAll);
    }

    private static void tellReport(Sentences s) {
        s.of(62, "Writes a reel as a report, in place of the previous report: for each bed, separated by spaces, the colours of "
                + "the clip that sleeps in it, or a hyphen if it is COLD and a tilde (byte 126) if it is WARM.",
                BedEdges::reports);
        tellReel(s, 62, "writeReel", (x, reel) -> x.writeReel(reel), 7, 17, 17, 17);
        s.of(62, "Returns the length of the report in bytes.", BedEdges::lengthsOfReports);
        s.noEdge(63, "Returns a byte of the report.");
        s.of(63, "`index`: the index of the byte, from 0", BedEdges::firstAndLastByte);
        s.of(63, "Returns the byte, or NONE if the report has no such byte or nothing was written.", BedEdges::bytes);
    }

    private static void tellReel(Sentences s, int promise, String name, Asked asked, int first, int last, int firstOfFour,
            int lastOfFour) {
        s.of(promise, "`reel`: the number of a reel",
                check -> firstAndLast(check, name, asked, first, last, firstOfFour, lastOfFour));
        s.of(promise, "Throws `IndexOutOfBoundsException` if `reel` is not the number of a reel",
                check -> Wrong.reel(check, name, (x, number) -> asked.of(x, number)));
    }

    /** The question is asked of reel 1. */
    private static void tellClipAndReel(Sentences s, int promise, String name, Asked asked, int first, int last,
            int firstOfTwelve, int lastOfTwelve) {
        s.of(promise, "`clip`: the number of a clip", check -> {
            check.due(name + ": clip 0 of 5", asked.of(new ClipHibernation(), 0), first);
            check.due(name + ": clip 4 of 5", asked.of(new ClipHibernation(), 4), last);
            check.due(name + ": clip 0 of 12", asked.of(Made.full(), 0), firstOfTwelve);
            check.due(name + ": clip 11 of 12", asked.of(Made.full(), 11), lastOfTwelve);
        });
        s.of(promise, "Throws `IndexOutOfBoundsException` if `clip` or `reel` does not exist", check -> {
            Wrong.clip(check, name + ": clip", (x, number) -> asked.of(x, number));
            Wrong.reel(check, name + ": reel", (x, number) -> askOfReel(x, promise, number));
        });
    }

    private static void askOfReel(ClipHibernation x, int promise, int reel) {
        switch (promise) {
            case 43:
                x.home(0, reel);
                break;
            case 44:
                x.whyNoSleep(0, reel);
                break;
            case 45:
                x.bedFor(0, reel);
                break;
            default:
                x.looksFor(0, reel);
                break;
        }
    }

    private static void firstAndLast(Check check, String name, Asked asked, int first, int last, int firstOfFour,
            int lastOfFour) {
        check.due(name + ": reel 0 of 2", asked.of(new ClipHibernation(), 0), first);
        check.due(name + ": reel 1 of 2", asked.of(new ClipHibernation(), 1), last);
        check.due(name + ": reel 0 of 4", asked.of(Made.full(), 0), firstOfFour);
        check.due(name + ": reel 3 of 4", asked.of(Made.full(), 3), lastOfFour);
    }

    // promises 40 to 43

    private static void bedCounts(Check check) {
        for (int beds = 1; beds <= 9; beds++) {
            check.due("bedCount(0) of " + beds, Made.crowd(0, beds, "").bedCount(0), beds);
        }
    }

    private static void firstAndLastBed(Check check) {
        for (int beds = 1; beds <= 9; beds++) {
            ClipHibernation x = Made.crowd(beds, beds, "");
            check.due("bed(0, 0) of " + beds, x.bed(0, 0), beds - 1);
            check.due("the last bed of " + beds, x.bed(0, beds - 1), beds == 1 ? 0 : beds - 2);
        }
    }

    private static void whatABedIs(Check check) {
        ClipHibernation x = Typed.made("archive;repeat 12(clip 1;);reel 9;sleep 0 0;sleep 11 0;sleep 5 0;wake 5;");
        int[] due = {-1, 0, 11, -2, -1, -1, -1, -1, -1};
        for (int bed = 0; bed < 9; bed++) {
            check.due("bed(0, " + bed + ")", x.bed(0, bed), due[bed]);
        }
    }

    private static void noSuchBed(Check check) {
        Wrong.reel(check, "bed of a reel", (x, number) -> x.bed(number, 0));
        Wrong.refuses(check, "bed of three", Wrong.NO_SUCH, Made::rich, (x, number) -> x.bed(0, number), Wrong.LEAST, -1, 3, 4,
                Wrong.GREATEST);
        Wrong.refuses(check, "bed of five", Wrong.NO_SUCH, Made::rich, (x, number) -> x.bed(1, number), -1, 5, 9);
        Wrong.refuses(check, "bed of nine", Wrong.NO_SUCH, Made::full, (x, number) -> x.bed(3, number), -1, 9);
        Wrong.refuses(check, "bed of one", Wrong.NO_SUCH, () -> Made.crowd(1, 1, ""), (x, number) -> x.bed(0, number), -1, 1);
        Twins.refuses(check, "bed(2, 5)", Wrong.NO_SUCH, Made::rich, x -> x.bed(2, 5));
    }

    private static void sleepers(Check check) {
        check.due("sleepers(0) of nobody", Made.crowd(0, 9, "").sleepers(0), 0);
        check.due("sleepers(0) of clip 0", Made.crowd(1, 9, "").sleepers(0), 1);
        check.due("sleepers(0) of nine", Made.crowd(9, 9, "").sleepers(0), 511);
        check.due("sleepers(0) of clip 11", Made.crowd(0, 1, "sleep 11 0;").sleepers(0), 2048);
        check.due("sleepers(0) of WARM beds", Made.crowd(9, 9, "weeks 40;").sleepers(0), 0);
    }

    private static void homes(Check check) {
        ClipHibernation x = Typed.made("archive;clip 115;clip 114;clip 8;clip 9;reel 9;reel 1;reel 2;reel 8;");
        int[][] due = {{0, 0, 0, 0}, {996 % 9, 0, 0, 4}, {8, 0, 0, 0}, {0, 0, 1, 1}};
        for (int clip = 0; clip < 4; clip++) {
            for (int reel = 0; reel < 4; reel++) {
                check.due("home(" + clip + ", " + reel + ")", x.home(clip, reel), due[clip][reel]);
            }
        }
        x.sleep(2, 0);
        check.due("home(2, 0) asleep in the last bed", x.home(2, 0), 8);
    }

    // promises 44, 45 and 50

    private static void whyNoSleep(Check check) {
        check.due("whyNoSleep(0, 0) asleep", Made.crowd(1, 9, "").whyNoSleep(0, 0), ClipHibernation.NOT_AWAKE);
        check.due("whyNoSleep(0, 0) faded", Made.crowd(0, 9, "weeks 10;").whyNoSleep(0, 0), ClipHibernation.NOT_AWAKE);
        check.due("whyNoSleep(0, 0) with fat 9", Made.crowd(0, 9, "feed 0 1;weeks 8;").whyNoSleep(0, 0),
                ClipHibernation.TOO_THIN);
        check.due("whyNoSleep(9, 0) without a bed", Made.crowd(9, 9, "").whyNoSleep(9, 0), ClipHibernation.NO_BED);
    }

    private static void allowedOrNot(Check check) {
        check.due("whyNoSleep(0, 0) woken", Made.crowd(1, 1, "wake 0;").whyNoSleep(0, 0), ClipHibernation.ALLOWED);
        check.due("whyNoSleep(0, 0) with fat 10", Made.crowd(0, 9, "feed 0 2;weeks 8;").whyNoSleep(0, 0),
                ClipHibernation.ALLOWED);
        check.due("whyNoSleep(8, 0) with one bed", Made.crowd(8, 9, "").whyNoSleep(8, 0), ClipHibernation.ALLOWED);
        check.due("whyNoSleep(9, 0) with a WARM bed", Made.crowd(9, 9, "wake 8;").whyNoSleep(9, 0), ClipHibernation.ALLOWED);
        check.due("whyNoSleep(8, 0) thin, without a bed", Made.crowd(2, 2, "weeks 8;").whyNoSleep(8, 0),
                ClipHibernation.TOO_THIN);
        check.due("whyNoSleep(0, 0) asleep, without a bed", Made.crowd(2, 2, "weeks 31;").whyNoSleep(0, 0),
                ClipHibernation.NOT_AWAKE);
    }

    private static void bedsFor(Check check) {
        check.due("bedFor(0, 0) at home", Made.crowd(0, 9, "").bedFor(0, 0), 1);
        check.due("bedFor(7, 0) in the last bed", Made.crowd(7, 9, "").bedFor(7, 0), 8);
        check.due("bedFor(8, 0) behind the last bed", Made.crowd(8, 9, "").bedFor(8, 0), 0);
        check.due("bedFor(9, 0) without a bed", Made.crowd(9, 9, "").bedFor(9, 0), -1);
        check.due("bedFor(9, 0) in the WARM bed", Made.crowd(9, 9, "wake 3;").bedFor(9, 0), 4);
        check.due("bedFor(0, 0) asleep", Made.crowd(1, 9, "").bedFor(0, 0), -1);
        check.due("bedFor(0, 0) faded", Made.crowd(0, 9, "weeks 10;").bedFor(0, 0), -1);
        check.due("bedFor(0, 0) with fat 9", Made.crowd(0, 9, "feed 0 1;weeks 8;").bedFor(0, 0), -1);
        check.due("bedFor(0, 0) with fat 10", Made.crowd(0, 9, "feed 0 2;weeks 8;").bedFor(0, 0), 1);
        check.due("bedFor(0, 0) in one bed", Made.crowd(0, 1, "").bedFor(0, 0), 0);
    }

    private static void nearestReel(Check check) {
        ClipHibernation x = Typed.made("archive;repeat 9(clip 1;);reel 9;reel 5;reel 3;sleep 0 0;sleep 1 0;sleep 2 1;");
        check.due("bestReel(8) at home", x.bestReel(8), 2);
        x.sleep(3, 2);
        check.due("bestReel(8) behind one", x.bestReel(8), 1);
        x.sleep(4, 1);
        x.sleep(5, 2);
        check.due("bestReel(8) behind two in each", x.bestReel(8), 0);
        x.sleep(6, 0);
        check.due("bestReel(8) behind two in reel 1", x.bestReel(8), 1);
        ClipHibernation far = Made.crowd(8, 9, "");
        check.due("bestReel(8) behind eight", far.bestReel(8), 0);
    }

    private static void bestReelOfEachClip(Check check) {
        ClipHibernation x = Made.full();
        check.due("bestReel(0) of 12", x.bestReel(0), 0);
        check.due("bestReel(11) of 12", x.bestReel(11), 0);
        x.sleep(0, 0);
        check.due("bestReel(0) asleep", x.bestReel(0), -1);
        check.due("bestReel(11)", x.bestReel(11), 1);
    }

    private static void bestReels(Check check) {
        ClipHibernation x = Made.full();
        for (int reel = 0; reel < 4; reel++) {
            check.due("bestReel(11) of several", x.bestReel(11), reel);
            x.sleep(reel, reel);
        }
        check.due("bestReel(11) behind one in each", x.bestReel(11), 0);
        check.due("bestReel(0) without reels", Typed.made("archive;clip 1;").bestReel(0), -1);
        check.due("bestReel(9) without a bed", Made.crowd(9, 9, "").bestReel(9), -1);
        check.due("bestReel(9) with a bed in the last reel", Made.crowd(9, 9, "reel 1;reel 1;reel 1;sleep 9 1;sleep 10 2;")
                .bestReel(11), 3);
        check.due("bestReel(0) with fat 9", Made.crowd(0, 9, "feed 0 1;weeks 8;").bestReel(0), -1);
        check.due("bestReel(0) with fat 10", Made.crowd(0, 9, "feed 0 2;weeks 8;").bestReel(0), 0);
        check.due("bestReel(0) faded", Made.crowd(0, 9, "weeks 10;").bestReel(0), -1);
    }

    // promises 46 to 49

    private static void looksFor(Check check) {
        check.due("looksFor(0, 0) in one bed", Made.crowd(1, 1, "").looksFor(0, 0), 1);
        check.due("looksFor(1, 0) in one bed of another", Made.crowd(1, 1, "").looksFor(1, 0), 1);
        check.due("looksFor(0, 0) at home", Made.crowd(9, 9, "").looksFor(0, 0), 1);
        check.due("looksFor(7, 0) in the last bed", Made.crowd(9, 9, "").looksFor(7, 0), 8);
        check.due("looksFor(8, 0) behind the last bed", Made.crowd(9, 9, "").looksFor(8, 0), 9);
        check.due("looksFor(9, 0) in all beds", Made.crowd(9, 9, "").looksFor(9, 0), 9);
        check.due("looksFor(9, 0) until COLD behind the last bed", Made.crowd(8, 9, "").looksFor(9, 0), 9);
        check.due("looksFor(9, 0) until COLD in the last bed", Made.crowd(7, 9, "").looksFor(9, 0), 8);
        check.due("looksFor(9, 0) at COLD", Made.crowd(0, 9, "").looksFor(9, 0), 1);
        check.due("looksFor(9, 0) past nine WARM beds", Made.crowd(9, 9, "weeks 40;").looksFor(9, 0), 9);
        check.due("looksFor(1, 0) past WARM", Made.crowd(2, 9, "wake 0;").looksFor(1, 0), 2);
        check.due("looksFor(0, 0) that sleeps elsewhere", Made.crowd(0, 9, "reel 2;sleep 0 1;").looksFor(0, 0), 1);
    }

    private static void longestLook(Check check) {
        for (int clips = 1; clips <= 9; clips++) {
            check.due("longestLook(0) of " + clips, Made.crowd(clips, 9, "").longestLook(0), clips);
        }
        check.due("longestLook(0) of the last alone", Made.crowd(9, 9, "wake 0;wake 1;wake 2;wake 3;wake 4;wake 5;wake 6;wake 7;")
                .longestLook(0), 9);
        check.due("longestLook(0) without the last", Made.crowd(9, 9, "wake 8;").longestLook(0), 8);
        check.due("longestLook(0) in one bed", Made.crowd(1, 1, "").longestLook(0), 1);
    }

    private static void longestLookOfNobody(Check check) {
        check.due("longestLook(0) of COLD beds", Made.crowd(0, 9, "").longestLook(0), 0);
        check.due("longestLook(0) of WARM beds", Made.crowd(9, 9, "weeks 40;").longestLook(0), 0);
        check.due("longestLook(1) of the reel beside", Made.crowd(9, 9, "reel 9;").longestLook(1), 0);
    }

    private static void looksIfAired(Check check) {
        check.due("looksIfAired(0) of the last alone", Made.crowd(9, 9, "wake 0;wake 1;wake 2;wake 3;wake 4;wake 5;wake 6;wake 7;")
                .looksIfAired(0), 1);
        check.due("looksIfAired(0) of two behind WARM", Made.crowd(4, 9, "wake 0;wake 1;").looksIfAired(0), 3);
        check.due("looksIfAired(0) with fat 1", Made.crowd(9, 9, "weeks 39;").looksIfAired(0), 45);
        // by their numbers: clip 0 takes bed 0, clip 1 has it for its home and goes behind
        ClipHibernation x = Typed.made("archive;clip 9;clip 8;clip 9;reel 9;sleep 2 0;sleep 1 0;sleep 0 0;");
        check.due("looksIfAired(0) over the end", x.looksIfAired(0), 1 + 1 + 2);
        Twins.changesNothing(check, "looksIfAired", Made::rich, y -> y.looksIfAired(0));
    }

    private static void fewestAndMostLooks(Check check) {
        check.due("looksIfAired(0) of nobody", Made.crowd(0, 9, "").looksIfAired(0), 0);
        check.due("looksIfAired(0) of WARM beds", Made.crowd(9, 9, "weeks 40;").looksIfAired(0), 0);
        for (int clips = 1; clips <= 9; clips++) {
            check.due("looksIfAired(0) of " + clips, Made.crowd(clips, 9, "").looksIfAired(0), clips * (clips + 1) / 2);
        }
        check.due("looksIfAired(0) in one bed", Made.crowd(1, 1, "").looksIfAired(0), 1);
    }

    /** Clips of the colours 1 to 8 lie in the beds of their colours, one of colour 9 in bed 0. */
    private static void clusters(Check check) {
        due(check, "", 0);
        due(check, "0", 1);
        due(check, "8", 1);
        due(check, "08", 2);
        due(check, "0178", 4);
        due(check, "017", 2);
        due(check, "178", 2);
        due(check, "0123567", 4);
        due(check, "01235678", 8);
        due(check, "12345678", 8);
        due(check, "01234567", 8);
        due(check, "02468", 2);
        check.due("longestCluster(0) with WARM beds", Made.crowd(9, 9, "air 0;wake 0;wake 8;").longestCluster(0), 9);
        check.due("longestCluster(0) of WARM beds", Made.crowd(3, 9, "weeks 40;").longestCluster(0), 3);
    }

    private static void due(Check check, String beds, int cluster) {
        StringBuilder script = new StringBuilder("archive;clip 9;clip 1;clip 2;clip 3;clip 4;clip 5;clip 6;clip 7;clip 8;reel 9;");
        for (char bed : beds.toCharArray()) {
            script.append("sleep ").append(bed).append(" 0;");
        }
        check.due("longestCluster(0) with beds " + beds, Typed.made(script.toString()).longestCluster(0), cluster);
    }

    private static void clusterOfAll(Check check) {
        for (int beds = 1; beds <= 9; beds++) {
            check.due("longestCluster(0) of all " + beds, Made.crowd(beds, beds, "").longestCluster(0), beds);
            check.due("longestCluster(0) of all WARM " + beds, Made.crowd(beds, beds, "weeks 40;").longestCluster(0), beds);
            check.due("longestCluster(0) of all but one of " + beds, Made.crowd(beds - 1, beds, "").longestCluster(0), beds - 1);
        }
    }

    // promises 62 and 63

    private static void reports(Check check) {
        due(check, Made.crowd(0, 1, ""), "-");
        due(check, Made.crowd(1, 1, ""), "1");
        due(check, Made.crowd(1, 1, "wake 0;"), "~");
        due(check, Made.crowd(2, 3, "wake 0;"), "- ~ 1");
        due(check, Made.crowd(9, 9, ""), "1 1 1 1 1 1 1 1 1");
        due(check, Made.crowd(0, 9, ""), "- - - - - - - - -");
        due(check, Made.crowd(9, 9, "weeks 40;"), "~ ~ ~ ~ ~ ~ ~ ~ ~");
        ClipHibernation x = Typed.made("archive;clip 98765432;clip 7;clip 33;reel 3;sleep 0 0;sleep 1 0;sleep 2 0;");
        due(check, x, "98765432 7 33");
        x.wake(0);
        due(check, x, "~ 7 33");
        x.wake(1);
        x.wake(2);
        x.air(0);
        check.dueText("the report that was written before", Look.report(x), "~ 7 33");
        due(check, x, "- - -");
    }

    private static void due(Check check, ClipHibernation x, String want) {
        check.due("writeReel(0)", x.writeReel(0), want.length());
        check.dueText("the report", Look.report(x), want);
    }

    private static void lengthsOfReports(Check check) {
        check.due("writeReel(0) of one bed", Made.crowd(0, 1, "").writeReel(0), 1);
        check.due("writeReel(0) of nine COLD beds", Made.crowd(0, 9, "").writeReel(0), 17);
        ClipHibernation x = Made.full();
        for (int clip = 0; clip < 9; clip++) {
            x.sleep(clip, 3);
            check.due("writeReel(3) of " + (clip + 1) + " clips", x.writeReel(3), 17 + 7 * (clip + 1));
        }
    }

    private static void firstAndLastByte(Check check) {
        ClipHibernation x = new ClipHibernation();
        x.writeReel(0);
        check.due("reportByte(0)", x.reportByte(0), '~');
        check.due("reportByte(6)", x.reportByte(6), '3');
        ClipHibernation full = Typed.made("archive;repeat 9(clip 12345678;);reel 9;sleep 0 0;sleep 1 0;sleep 2 0;sleep 3 0;"
                + "sleep 4 0;sleep 5 0;sleep 6 0;sleep 7 0;sleep 8 0;");
        full.writeReel(0);
        for (int index = 0; index < 80; index++) {
            check.due("reportByte(" + index + ")", full.reportByte(index), index % 9 == 8 ? ' ' : '1' + index % 9);
        }
    }

    private static void bytes(Check check) {
        ClipHibernation x = new ClipHibernation();
        for (int index : new int[] {Wrong.LEAST, -1, 0, 1, Wrong.GREATEST}) {
            check.due("reportByte(" + index + ") of nothing", x.reportByte(index), -1);
        }
        x.writeReel(1);
        x.writeReel(0);
        for (int index : new int[] {Wrong.LEAST, -1, 7, 8, 16, 17, 80, 81, Wrong.GREATEST}) {
            check.due("reportByte(" + index + ") of seven", x.reportByte(index), -1);
        }
        check.due("reportByte(6) of seven", x.reportByte(6), '3');
        ClipHibernation full = Made.full();
        for (int clip = 0; clip < 9; clip++) {
            full.sleep(clip, 0);
        }
        full.writeReel(0);
        check.due("reportByte(79) of 80", full.reportByte(79), '9');
        check.due("reportByte(80) of 80", full.reportByte(80), -1);
    }
}
