/** Promises 4, 20 and 21: runScript, scriptErrorKind and scriptErrorOffset. */
public final class ScriptTest {
    private static final Check check = new Check();

    public static void main(String[] args) {
        goodScripts();
        everyCommand();
        badTokens();
        badNumbers();
        refusals();
        repeats();
        tooMany();
        orderOfErrors();
        whatAScriptReplaces();
        check.end();
    }

    private static void good(String text, String look) {
        Scripts.good(check, text, look);
    }

    private static void badAtMark(String marked, int kind) {
        Scripts.badAtMark(check, marked, kind);
    }

    private static void goodScripts() {
        String empty = "week 0 food 100 burned 0 wakings 0 violations 0\n";
        good("archive;", empty);
        good(" \n archive \n ; \n ", empty);
        good("archive;clip12;reel3;", empty + "clip 12 state 0 fat 40 hash 33 in -1/-1 scene -1\nreel -1 -1 -1\n");
        good("archive;clip\n12\n;", empty + "clip 12 state 0 fat 40 hash 33 in -1/-1 scene -1\n");
        good("archive;food 00000005;", "week 0 food 105 burned 0 wakings 0 violations 0\n");
        good("archive;clip 99999999;", empty + "clip 99999999 state 0 fat 40 hash "
                + Made.hash("99999999") + " in -1/-1 scene -1\n");
        good("archive;clip 1;reel 2;sleep 0 0;weeks 50;", "week 50 food 100 burned 40 wakings 0 violations 0\n"
                + "clip 1 state 2 fat 0 hash 1 in -1/-1 scene -1\nreel -1 -2\n");
    }

    private static void everyCommand() {
        good("archive;clip 21;clip 5;reel 4;scene 3;sleep 0 0;sleep 1 0;wake 1;cut 0 2;air 0;feed 1 9;food 30;"
                + "paint 0 1 7;weeks 2;", "week 2 food 121 burned 16 wakings 1 violations 0\n"
                + "clip 27 state 0 fat 32 hash 69 in -1/-1 scene 0\n"
                + "clip 5 state 0 fat 41 hash 5 in -1/-1 scene -1\n"
                + "reel -1 -1 -1 -1\nscene 3\n");
    }

    private static void badTokens() {
        badAtMark("^", 1);
        badAtMark("  \n^", 1);
        badAtMark("^archives;", 1);
        badAtMark("^archiv;", 1);
        badAtMark("^Archive;", 1);
        badAtMark("archive^", 1);
        badAtMark("archive  ^", 1);
        badAtMark("archive ^clip 1;", 1);
        badAtMark("archive;^;", 1);
        badAtMark("archive;^archive;", 1);
        badAtMark("archive;^7;", 1);
        badAtMark("archive;^(", 1);
        badAtMark("archive;^)", 1);
        badAtMark("archive;^clips 1;", 1);
        badAtMark("archive;^cli 1;", 1);
        badAtMark("archive;^flip 1;", 1);
        badAtMark("archive;^clap 1;", 1);
        badAtMark("archive;^clin 1;", 1);
        badAtMark("archive;^clipz 1;", 1);
        badAtMark("archive;clip 1;clip ^z;", 1);
        badAtMark("archive;clip 1^:", 1);
        badAtMark("archive;clip ^;", 1);
        badAtMark("archive;clip^", 1);
        badAtMark("archive;clip 1^", 1);
        badAtMark("archive;clip 1  \n ^", 1);
        badAtMark("archive;clip 1^)", 1);
        badAtMark("archive;clip 1 ^2;", 1);
        badAtMark("archive;clip ^reel;", 1);
        badAtMark("archive;clip ^123456789;", 1);
        badAtMark("archive;clip ^000000001;", 1);
        badAtMark("archive;^123456789;", 1);
        badAtMark("archive;clip 1^123456789;".replace("1^", "1 ^"), 1);
        badAtMark("archive;clip ^-1;", 1);
        badAtMark("archive;^\tclip 1;", 1);
        badAtMark("archive;^\rclip 1;", 1);
        badAtMark("archive;^\u0000", 1);
        badAtMark("archive;^\u00FF", 1);
        badAtMark("archive;^\u00E1", 1);
        badAtMark("archive;clip ^\u00B1;", 1);
        badAtMark("archive;clip 1^,", 1);
        badAtMark("archive;clip 1;^{", 1);
        badAtMark("archive;clip 1;^`", 1);
        badAtMark("archive;clip 1;^/", 1);
        badAtMark("archive;clip ^:;", 1);
    }

    private static void badNumbers() {
        String base = "archive;clip 123;reel 3;scene 2;";
        badAtMark("archive;clip ^0;", 2);
        badAtMark("archive;clip ^10;", 2);
        badAtMark("archive;clip ^11111101;", 2);
        badAtMark("archive;clip ^012;", 2);
        badAtMark("archive;reel ^0;", 2);
        badAtMark("archive;reel ^10;", 2);
        badAtMark("archive;scene ^0;", 2);
        badAtMark("archive;scene ^10;", 2);
        badAtMark("archive;sleep ^0 0;", 2);
        badAtMark(base + "sleep ^1 0;", 2);
        badAtMark(base + "sleep 0 ^1;", 2);
        badAtMark("archive;wake ^0;", 2);
        badAtMark(base + "wake ^1;", 2);
        badAtMark("archive;cut ^0 1;", 2);
        badAtMark(base + "cut ^1 1;", 2);
        badAtMark(base + "cut 0 ^0;", 2);
        badAtMark(base + "cut 0 ^10000;", 2);
        badAtMark("archive;air ^0;", 2);
        badAtMark(base + "air ^1;", 2);
        badAtMark(base + "feed ^1 1;", 2);
        badAtMark(base + "feed 0 ^0;", 2);
        badAtMark(base + "feed 0 ^51;", 2);
        badAtMark("archive;food ^0;", 2);
        badAtMark("archive;food ^1000;", 2);
        badAtMark(base + "paint ^1 0 1;", 2);
        badAtMark(base + "paint 0 ^3 1;", 2);
        badAtMark(base + "paint 0 0 ^0;", 2);
        badAtMark(base + "paint 0 0 ^10;", 2);
        badAtMark("archive;weeks ^0;", 2);
        badAtMark("archive;weeks ^51;", 2);
        badAtMark("archive;weeks ^99999999;", 2);
        badAtMark("archive;repeat ^0();", 2);
        badAtMark("archive;repeat ^21();", 2);
        good("archive;clip 12345678;clip 9;reel 1;reel 9;scene 1;scene 9;feed 0 50;feed 0 1;food 1;food 999;cut 0 1;cut 1 9999;"
                + "paint 0 7 9;paint 1 0 1;sleep 0 1;wake 0;air 1;weeks 1;repeat 1(repeat 20(););",
                "week 1 food 1049 burned 8 wakings 0 violations 0\n"
                + "clip 12345679 state 0 fat 87 hash 222 in -1/-1 scene -1\n"
                + "clip 1 state 0 fat 36 hash 1 in -1/-1 scene -1\n"
                + "reel -1\nreel -1 -1 -1 -1 -1 -1 -1 -1 -1\nscene 1\nscene 9\n");
        good("archive;weeks 50;", "week 50 food 100 burned 0 wakings 0 violations 0\n");
    }

    private static void refusals() {
        badAtMark("archive;repeat 13(clip 1^;);", 3);
        badAtMark("archive;repeat 5(reel 1^;);", 3);
        badAtMark("archive;repeat 6(scene 1^;);", 3);
        badAtMark("archive;clip 1;reel 1;sleep 0 0;sleep 0 0 ^;", 3);
        badAtMark("archive;clip 1;reel 1;weeks 8;sleep 0 0^;", 3);
        badAtMark("archive;clip 1;clip 1;reel 1;sleep 0 0;sleep 1 0^;", 3);
        badAtMark("archive;clip 1;wake 0^;", 3);
        badAtMark("archive;clip 1;food 99;feed 0 50;feed 0 10^;", 3);
        badAtMark("archive;clip 1;clip 1;clip 1;feed 0 50;feed 1 50;feed 2 1^;", 3);
        badAtMark("archive;clip 1;reel 1;sleep 0 0;feed 0 1^;", 3);
        badAtMark("archive;repeat 10(food 990^;);food 1;", 3);
        badAtMark("archive;repeat 10(food 989;);food 9;food 1^;", 3);
        badAtMark("archive;clip 1;reel 1;sleep 0 0;paint 0 0 1^;", 3);
        badAtMark("archive;repeat 20(weeks 50^;);", 3);
        good("archive;repeat 19(weeks 50;);weeks 49;", "week 999 food 100 burned 0 wakings 0 violations 0\n");
        good("archive;repeat 10(food 989;);food 9;", "week 0 food 9999 burned 0 wakings 0 violations 0\n");
    }

    private static void repeats() {
        String empty = "week 0 food 100 burned 0 wakings 0 violations 0\n";
        good("archive;repeat 20();", empty);
        good("archive;repeat 1(repeat 20(););", empty);
        good("archive;repeat 20(food 1;);", "week 0 food 120 burned 0 wakings 0 violations 0\n");
        good("archive;repeat 3(food 1;repeat 4(food 10;);food 100;);food 3;",
                "week 0 food 526 burned 0 wakings 0 violations 0\n");
        good("archive;repeat 2(repeat 2(food 1;);repeat 3(food 10;););",
                "week 0 food 164 burned 0 wakings 0 violations 0\n");
        badAtMark("archive;repeat 2(food 1;)^food 1;", 1);
        badAtMark("archive;repeat 2(food 1^);", 1);
        badAtMark("archive;repeat 2(food 1;);^);", 1);
        badAtMark("archive;repeat 2 ^food 1;", 1);
        badAtMark("archive;repeat ^(food 1;);", 1);
        badAtMark("archive;repeat^", 1);
        badAtMark("archive;repeat 2^", 1);
        badAtMark("archive;repeat 2(^", 1);
        badAtMark("archive;repeat 2(food 1;^", 1);
        badAtMark("archive;repeat 2(food 1;)^", 1);
        badAtMark("archive;repeat 2(^;);", 1);
        badAtMark("archive;repeat 2(repeat 2(^repeat 2();););", 4);
        badAtMark("archive;repeat 2(repeat 2(food 1;^repeat x", 4);
        good("archive;repeat 2(repeat 2(););repeat 2(repeat 2(););", empty);
    }

    private static void tooMany() {
        good("archive;repeat 20(repeat 10(food 1;););", "week 0 food 300 burned 0 wakings 0 violations 0\n");
        badAtMark("archive;repeat 20(repeat 10(food 1;););^food 1;", 5);
        badAtMark("archive;repeat 20(repeat 10(food 1;););^wake 7", 5);
        badAtMark("archive;repeat 20(repeat 10(food 1;););^nonsense;", 1);
        badAtMark("archive;repeat 20(repeat 10(food 1;););repeat ^21(", 2);
        badAtMark("archive;repeat 20(repeat 10(food 1;););repeat 2(^food 1;);", 5);
        badAtMark("archive;clip 1;repeat 20(repeat 10(^food 1;););", 5);
        good("archive;repeat 20(repeat 10(food 1;););repeat 20(repeat 20(););",
                "week 0 food 300 burned 0 wakings 0 violations 0\n");
        badAtMark("archive;repeat 20(repeat 10(food 1;););repeat 2(repeat 2(^repeat", 4);
    }

    private static void orderOfErrors() {
        badAtMark("archive;sleep ^9 x", 2);
        badAtMark("archive;clip ^0 nonsense", 2);
        badAtMark("archive;clip 1;wake 0 ^wake", 1);
        badAtMark("archive;clip 1;wake 0^;nonsense", 3);
        badAtMark("archive;clip 1;clip 2;reel 1;repeat 2(sleep 0 0^;clip 2;)nonsense", 3);
        badAtMark("archive;clip 1;repeat 3(clip 2;repeat 3(clip 3;clip 4^;););nonsense", 3);
        badAtMark("archive;clip 9;repeat 2(paint 0 0 1;reel 1;sleep 0 ^3;);", 2);
        badAtMark("archive;clip 9;repeat 9(weeks 9;feed 0 9^;);nonsense", 3);
    }

    private static void whatAScriptReplaces() {
        ClipHibernation x = new ClipHibernation();
        x.writeReel(0);
        String report = Look.report(x);
        x.saveSnapshot();
        x.addFood(1);
        String before = Look.at(x);
        check.due("runScript()", Typed.run(x, "archive;clip 7;"), 1);
        check.dueText("the archive", Look.at(x), "week 0 food 100 burned 0 wakings 0 violations 0\n"
                + "clip 7 state 0 fat 40 hash 7 in -1/-1 scene -1\n");
        check.dueText("the report after a script", Look.report(x), report);
        check.due("undoCount()", x.undoCount(), 2);
        check.due("undo()", x.undo(), 1);
        check.dueText("the archive after undo", Look.at(x), before);
        check.due("undo()", x.undo(), 0);
        check.due("food()", x.food(), 80);
        Typed.run(x, "archive;reel 2;");
        check.due("restoreSnapshot() after a script", x.restoreSnapshot(), 2);
        check.due("food()", x.food(), 80);

        // the error is that of the latest script, and undo and the snapshot leave it alone
        check.due("runScript()", Typed.run(x, "archive;clip 0;"), -1);
        check.due("scriptErrorKind()", x.scriptErrorKind(), 2);
        x.addFood(1);
        x.undo();
        x.restoreSnapshot();
        check.due("scriptErrorKind() after undo and restoring", x.scriptErrorKind(), 2);
        check.due("scriptErrorOffset() after undo and restoring", x.scriptErrorOffset(), 13);
        check.due("runScript() of nothing", x.runScript(), -1);
        check.due("scriptErrorKind()", x.scriptErrorKind(), 1);
        check.due("scriptErrorOffset()", x.scriptErrorOffset(), 0);
        Typed.run(x, "archive;");
        check.due("scriptErrorKind() after a good script", x.scriptErrorKind(), 0);
        check.due("scriptErrorOffset() after a good script", x.scriptErrorOffset(), -1);
        x.undo();
        check.due("scriptErrorKind() after undo", x.scriptErrorKind(), 0);
        check.due("runScript() without clips", Typed.run(x, "archive;reel 1;"), 0);
        check.due("runScript() with an error in a repeat", Typed.run(x, "archive;repeat 2(food 1;repeat 3(food 0"), -1);
        check.due("runScript() after it", Typed.run(x, "archive;repeat 2(repeat 2(food 1;););"), 0);
        check.due("food()", x.food(), 104);
        check.due("runScript() with a command too many", Typed.run(x, "archive;repeat 11(repeat 20(food 1;););"), -1);
        check.due("runScript() after it", Typed.run(x, "archive;repeat 10(repeat 20(food 1;););"), 0);
    }
}
