/** The sentences of "Terms" on scripts, and promises 4, 20 and 21. */
final class ScriptEdges {
    /** Clips of three colours and of one, a reel that is full and one that is not, and a scene. */
    private static final String BASE = "archive;clip 123;clip 9;reel 1;reel 9;scene 1;sleep 1 0;";
    private static final String TWO_HUNDRED = "archive;repeat 20(repeat 10(food 1;););";

    private ScriptEdges() {
    }

    static void tell(Sentences s) {
        int t = Sentences.TERMS;
        s.noEdge(t, "Scripts.");
        s.of(t, "A script is a text of at most 600 bytes.", ScriptEdges::longestText);
        s.of(t, "script  = \"archive\" \";\" { command \";\" }", ScriptEdges::shapeOfAScript);
        s.of(t, "command = \"clip\" COLOURS | \"reel\" BEDS | \"scene\" LIMIT | \"sleep\" CLIP REEL | \"wake\" CLIP | \"cut\" SCENE "
                + "PATTERN | \"air\" REEL | \"feed\" CLIP N | \"food\" N | \"paint\" CLIP INDEX COLOUR | \"weeks\" N | \"repeat\" N "
                + "\"(\" { command \";\" } \")\"", ScriptEdges::shapeOfCommands);
        s.of(t, "A token is a word (a maximal run of the letters a to z),", ScriptEdges::words);
        s.of(t, "a number (a maximal run of 1 to 8 digits),", ScriptEdges::numbers);
        s.of(t, "a parenthesis or a semicolon.", ScriptEdges::signs);
        s.of(t, "Spaces (byte 32) and line feeds (byte 10) separate tokens and are otherwise ignored.", ScriptEdges::blanks);
        s.of(t, "The commands stand for the methods addClip, addReel, addScene, sleep, wake, cut, air, feed, addFood, paint "
                + "and passWeeks;", ScriptEdges::commandsAsMethods);
        s.of(t, "\"repeat\" executes the commands in its parentheses N times (1 to 20).", ScriptEdges::rounds);
        s.of(t, "Commands are executed one after the other.", ScriptEdges::oneAfterTheOther);
        s.of(t, "The first error that is found while the commands are executed is reported with the offset of the first byte "
                + "of its token, also if it is found in a later repetition;", ScriptEdges::firstError);
        s.of(t, "if several kinds of error apply to one token, the smallest kind is reported.", ScriptEdges::smallestKind);
        tellKinds(s);
        s.of(4, "Executes the input buffer as a script.", ScriptEdges::executesTheBuffer);
        s.of(4, "A script without an error replaces everything: the archive is empty, the week is 0 and the food is 100 before "
                + "its first command.", ScriptEdges::replacesEverything);
        s.of(4, "The input buffer is empty afterwards in every case.", ScriptEdges::emptyAfterwards);
        s.of(4, "If the script has an error, only the input buffer and the script error change.", ScriptEdges::onlyTheError);
        s.of(4, "Returns the number of clips, or NONE if the script has an error.", ScriptEdges::answers);
        s.of(20, "Returns the kind (1 to 5) of the error of the latest script, or 0 if it had no error or no script was run.",
                ScriptEdges::kindOfTheLatest);
        s.of(21, "Returns the offset of the error of the latest script, or NONE if scriptErrorKind() is 0.",
                ScriptEdges::offsetOfTheLatest);
    }

    private static void tellKinds(Sentences s) {
        int t = Sentences.TERMS;
        s.of(t, "The error kinds are: 1, a token that the grammar does not allow at this place,", ScriptEdges::tokenNotAllowed);
        s.of(t, "a run of more than 8 digits,", ScriptEdges::nineDigits);
        s.of(t, "a byte that does not begin a token,", ScriptEdges::otherBytes);
        s.of(t, "or the end of the text inside a statement (the offset is then the length of the text);",
                ScriptEdges::endOfTheText);
        s.of(t, "2, a number that is out of its range (as for the method;", ScriptEdges::rangesOfNumbers);
        s.of(t, "COLOURS with a digit 0)", ScriptEdges::coloursWithZero);
        s.of(t, "or does not exist;", ScriptEdges::numbersThatDoNotExist);
        s.of(t, "3, the semicolon behind a command whose method would throw an IllegalStateException;", ScriptEdges::refusals);
        s.of(t, "4, the word \"repeat\" inside two other repeats;", ScriptEdges::thirdRepeat);
        s.of(t, "5, the first word of the command that would be the 201st one to be executed (a \"repeat\" itself does not "
                + "count).", ScriptEdges::command201);
    }

    /** The error is at the mark ^, which is left out of the text. */
    private static void bad(Check check, String marked, int kind) {
        Scripts.badAtMark(check, marked, kind);
    }

    private static void longestText(Check check) {
        String spaces = " ".repeat(600 - "archive;food 1;".length());
        check.due("food() of 600 bytes", Scripts.good(check, "archive;" + spaces + "food 1;").food(), 101);
        check.due("food() of 599 bytes", Scripts.good(check, "archive;" + spaces.substring(1) + "food 1;").food(), 101);
        bad(check, "archive;" + spaces + "food 12^", 1);
        ClipHibernation x = new ClipHibernation();
        Typed.type(x, "archive;" + spaces + "food 1;");
        check.due("append to 620", x.append(0, 0, 0, 0, 0), -1);
        check.due("runScript() of the 600 bytes", x.runScript(), 0);
        check.due("food()", x.food(), 101);
    }

    private static void shapeOfAScript(Check check) {
        Scripts.good(check, "archive;");
        check.due("clipCount() of one command", Scripts.good(check, "archive;clip 1;").clipCount(), 1);
        bad(check, "^", 1);
        bad(check, "^;", 1);
        bad(check, "archive^", 1);
        bad(check, "archive ^clip 1;", 1);
        bad(check, "^clip 1;", 1);
        bad(check, "^archiv;", 1);
        bad(check, "^archives;", 1);
        bad(check, "archive;^;", 1);
        bad(check, "archive;clip 1;^;", 1);
        bad(check, "archive;^archive;", 1);
        bad(check, "archive;clip 1^", 1);
        bad(check, "archive;^)", 1);
    }

    /** Each command with a number too few, as many as it needs, and one too many. */
    private static void shapeOfCommands(Check check) {
        String[] commands = {"clip 5", "reel 5", "scene 5", "sleep 0 1", "wake 1", "cut 0 5", "air 0", "feed 0 5", "food 5",
            "paint 0 0 5", "weeks 5"};
        for (String command : commands) {
            int last = command.lastIndexOf(' ');
            Scripts.good(check, BASE + command + ";");
            bad(check, BASE + command.substring(0, last) + "^;", 1);
            bad(check, BASE + command.substring(0, last) + "^", 1);
            bad(check, BASE + command + " ^5;", 1);
            bad(check, BASE + command + "^);", 1);
            bad(check, BASE + command + "^", 1);
            bad(check, BASE + command.substring(0, last) + " ^x;", 1);
        }
        Scripts.good(check, "archive;repeat 5();");
        bad(check, "archive;repeat ^();", 1);
        bad(check, "archive;repeat 5^;", 1);
        bad(check, "archive;repeat 5 ^5();", 1);
        bad(check, "archive;repeat 5(^(););", 1);
        bad(check, "archive;repeat 5(food 1^);", 1);
        bad(check, "archive;repeat 5(food 1;^;);", 1);
        bad(check, "archive;repeat 5()^", 1);
        bad(check, "archive;repeat 5()^);", 1);
        bad(check, "archive;^foods 1;", 1);
        bad(check, "archive;^foo 1;", 1);
    }

    /** Bytes 96 and 123 stand beside the letters, 64 and 91 beside the capital ones. */
    private static void words(Check check) {
        Scripts.good(check, "archive;reel1;air0;");
        bad(check, "archive;^clipa 1;", 1);
        bad(check, "archive;^clipz 1;", 1);
        bad(check, "archive;^blip 1;", 1);
        bad(check, "archive;^clib 1;", 1);
        bad(check, "^brchive;", 1);
        bad(check, "archive;^a 1;", 1);
        bad(check, "archive;^z 1;", 1);
        bad(check, "archive;clip^` 1;", 1);
        bad(check, "archive;clip^{ 1;", 1);
        bad(check, "archive;clip^A 1;", 1);
        bad(check, "archive;clip^Z 1;", 1);
        bad(check, "archive;^Clip 1;", 1);
        bad(check, "^ARCHIVE;", 1);
        bad(check, "archive;^cli p 1;", 1);
        bad(check, "archive;^" + "clip".repeat(148), 1);
    }

    /** Bytes 47 and 58 stand beside the digits. */
    private static void numbers(Check check) {
        check.due("food() of one digit", Scripts.good(check, "archive;food 9;").food(), 109);
        check.due("food() of eight digits", Scripts.good(check, "archive;food 00000999;").food(), 1099);
        check.due("colours(0) of eight digits", Scripts.good(check, "archive;clip 99999999;").colours(0), 99999999);
        bad(check, "archive;food ^000000999;", 1);
        bad(check, "archive;clip ^999999999;", 1);
        bad(check, "archive;food 9^/;", 1);
        bad(check, "archive;food 9^:;", 1);
        bad(check, "archive;food 1^food 1;", 1);
        bad(check, "archive;food ^/1;", 1);
        bad(check, "archive;food ^:1;", 1);
    }

    /** Bytes 39 and 42 stand beside the parentheses, 58 and 60 beside the semicolon. */
    private static void signs(Check check) {
        check.due("food()", Scripts.good(check, "archive;repeat 2(food 1;);").food(), 102);
        bad(check, "archive;repeat 2^'food 1;);", 1);
        bad(check, "archive;repeat 2^*food 1;);", 1);
        bad(check, "archive;repeat 2^)", 1);
        bad(check, "archive;repeat 2(food 1;^*", 1);
        bad(check, "archive;repeat 2(food 1;^(", 1);
        bad(check, "archive;food 1^:", 1);
        bad(check, "archive;food 1^<", 1);
        bad(check, "archive;repeat 2^[food 1;);", 1);
        bad(check, "archive;repeat 2(^(food 1;););", 1);
    }

    private static void blanks(Check check) {
        check.due("food() without blanks", Scripts.good(check, "archive;repeat2(food1;food20;);").food(), 142);
        check.due("food() with a blank beside each token", Scripts.good(check,
                " archive ; repeat 2 ( food 1 ; food 20 ; ) ; ").food(), 142);
        check.due("food() with a line feed beside each token", Scripts.good(check,
                "\narchive\n;\nrepeat\n2\n(\nfood\n1\n;\nfood\n20\n;\n)\n;\n").food(), 142);
        check.due("food() with many of both", Scripts.good(check, "archive; \n\n  food \n 7   ;  \n").food(), 107);
        bad(check, "archive;food 1 ^2;", 1);
        bad(check, "archive;food 1\n^2;", 1);
        bad(check, "archive;^fo od 1;", 1);
        bad(check, "archive;^fo\nod 1;", 1);
        for (int sign : new int[] {0, 9, 11, 13, 31, 33, 127, 160}) {
            bad(check, "archive;^" + (char) sign + "food 1;", 1);
            bad(check, "archive;food^" + (char) sign + "1;", 1);
            bad(check, "archive;food 1;^" + (char) sign, 1);
        }
    }

    private static void commandsAsMethods(Check check) {
        ClipHibernation x = Made.empty();
        x.addClip(12);
        x.addClip(99999999);
        x.addReel(1);
        x.addReel(9);
        x.addScene(9);
        x.sleep(0, 0);
        x.sleep(1, 1);
        x.wake(0);
        x.cut(0, 9999);
        String cut = Look.at(x);
        x.air(0);
        x.feed(0, 50);
        x.addFood(999);
        x.paint(1, 7, 1);
        x.passWeeks(3);
        String made = "archive;clip 12;clip 99999999;reel 1;reel 9;scene 9;sleep 0 0;sleep 1 1;wake 0;cut 0 9999;";
        Scripts.good(check, made, cut);
        Scripts.good(check, made + "air 0;feed 0 50;food 999;paint 1 7 1;weeks 3;", Look.at(x));
    }

    private static void rounds(Check check) {
        for (int rounds = 1; rounds <= 20; rounds++) {
            check.due("food() after " + rounds + " rounds",
                    Scripts.good(check, "archive;repeat " + rounds + "(food 10;);food 1;").food(), 101 + 10 * rounds);
        }
        bad(check, "archive;repeat ^0(food 10;);", 2);
        bad(check, "archive;repeat ^21(food 10;);", 2);
        bad(check, "archive;repeat ^99999999(food 10;);", 2);
        check.due("food() of repeats without commands", Scripts.good(check, "archive;repeat 20(repeat 20(););").food(), 100);
        check.due("food() of a repeat in another",
                Scripts.good(check, "archive;repeat 2(food 1;repeat 3(food 10;);food 100;);").food(), 362);
        check.due("food() of two repeats in another",
                Scripts.good(check, "archive;repeat 3(repeat 2(food 1;);repeat 4(food 10;););").food(), 226);
    }

    private static void oneAfterTheOther(Check check) {
        ClipHibernation x = Scripts.good(check, "archive;clip 1;clip 1;reel 2;sleep 1 0;sleep 0 0;");
        check.due("bedOf(1)", x.bedOf(1), 1);
        check.due("bedOf(0)", x.bedOf(0), 0);
        bad(check, "archive;clip 1;reel 2;wake 0^;sleep 0 0;", 3);
        bad(check, "archive;sleep ^0 0;clip 1;reel 2;", 2);
        ClipHibernation y = Scripts.good(check, "archive;clip 1;reel 2;repeat 20(sleep 0 0;wake 0;);");
        check.due("state(0)", y.state(0), ClipHibernation.AWAKE);
        check.due("bed(0, 1)", y.bed(0, 1), ClipHibernation.WARM);
    }

    private static void firstError(Check check) {
        bad(check, "^x", 1);
        bad(check, "archive;clip ^0;clip x;", 2);
        bad(check, "archive;wake ^0;nonsense", 2);
        bad(check, "archive;clip 1;wake 0^;nonsense", 3);
        bad(check, "archive;sleep ^9 nonsense", 2);
        bad(check, "archive;clip 1;wake 0 ^nonsense", 1);
        bad(check, "archive;repeat 13(clip 1^;);nonsense", 3);
        bad(check, "archive;repeat 20(weeks 50^;);", 3);
        bad(check, "archive;clip 1;reel 1;repeat 2(sleep 0 0^;);nonsense", 3);
        bad(check, "archive;clip 1;repeat 2(repeat 12(clip 1^;););", 3);
        bad(check, "archive;clip 9;repeat 20(paint 0 0 1;repeat 20(food ^1000;););", 2);
        bad(check, "archive;reel 1;scene 1;repeat 2(cut 0 1;food 990;repeat 5(food 990^;););", 3);
    }

    private static void smallestKind(Check check) {
        bad(check, TWO_HUNDRED + "^nonsense 1;", 1);
        bad(check, TWO_HUNDRED + "^archive;", 1);
        bad(check, TWO_HUNDRED + "^7;", 1);
        bad(check, TWO_HUNDRED + "repeat 1(repeat 1(^repeat", 4);
        bad(check, TWO_HUNDRED + "repeat 1(repeat 1(^food 1;", 5);
        bad(check, "archive;food ^123456789;", 1);
        bad(check, "archive;sleep ^000000000 0;", 1);
        bad(check, "archive;clip ^100000000;", 1);
        bad(check, "archive;repeat ^000000021();", 1);
    }

    private static void tokenNotAllowed(Check check) {
        bad(check, "^7;", 1);
        bad(check, "^(", 1);
        bad(check, "archive^(", 1);
        bad(check, "archive ^7;", 1);
        bad(check, "archive;^7;", 1);
        bad(check, "archive;^(food 1;);", 1);
        bad(check, "archive;food ^food;", 1);
        bad(check, "archive;food ^(1);", 1);
        bad(check, "archive;food ^)", 1);
        bad(check, "archive;food 1^(", 1);
        bad(check, "archive;food 1 ^food 1;", 1);
        bad(check, "archive;repeat ^repeat", 1);
        bad(check, "archive;repeat 1 ^food 1;", 1);
        bad(check, "archive;repeat 1(^1;);", 1);
        bad(check, "archive;repeat 1()^food 1;", 1);
        bad(check, "archive;repeat 1();^);", 1);
    }

    private static void nineDigits(Check check) {
        for (int digits = 9; digits <= 12; digits++) {
            bad(check, "archive;food ^" + "0".repeat(digits - 1) + "1;", 1);
            bad(check, "archive;clip ^" + "1".repeat(digits) + ";", 1);
        }
        bad(check, "archive;food ^" + "9".repeat(587), 1);
        bad(check, "^123456789", 1);
        bad(check, "archive;food 1 ^123456789;", 1);
        check.due("food() of eight digits", Scripts.good(check, "archive;food 00000001;").food(), 101);
        bad(check, "archive;food ^12345678;", 2);
    }

    /** Every byte but blanks, letters, digits, parentheses and the semicolon. */
    private static void otherBytes(Check check) {
        for (int sign = 0; sign < 256; sign++) {
            boolean begins = sign >= 'a' && sign <= 'z' || sign >= '0' && sign <= '9' || sign == '(' || sign == ')'
                    || sign == ';' || sign == ' ' || sign == '\n';
            if (!begins) {
                ClipHibernation x = new ClipHibernation();
                check.due("runScript() with byte " + sign, Typed.run(x, "archive;food 1" + (char) sign + ";"), -1);
                check.due("scriptErrorKind() with byte " + sign, x.scriptErrorKind(), 1);
                check.due("scriptErrorOffset() with byte " + sign, x.scriptErrorOffset(), 14);
            }
        }
    }

    private static void endOfTheText(Check check) {
        StringBuilder text = new StringBuilder();
        for (String token : "archive ; clip 12 ; reel 3 ; repeat 2 ( food 1 ; paint 0 0 1 ; ) ;".split(" ")) {
            text.append(token);
            boolean open = text.indexOf("(") >= 0 && text.indexOf(")") < 0;
            if (token.equals(";") && !open) {
                Scripts.good(check, text.toString());
                Scripts.good(check, text + " \n ");
            } else {
                bad(check, text + "^", 1);
                bad(check, text + " \n ^", 1);
            }
            text.append(' ');
        }
        bad(check, "^", 1);
        bad(check, " ^", 1);
        bad(check, "archive^", 1);
        bad(check, "archive \n ^", 1);
        bad(check, "archive;food^", 1);
        bad(check, "archive;food 1^", 1);
        bad(check, "archive;food 1 ^", 1);
        bad(check, "archive;repeat 1^", 1);
        bad(check, "archive;repeat 1(^", 1);
        bad(check, "archive;repeat 1(food 1;^", 1);
        bad(check, "archive;repeat 1(food 1;)^", 1);
        bad(check, "archive;repeat 1(repeat 1();^", 1);
        bad(check, "archive;food" + " ".repeat(588) + "^", 1);
        check.due("food() of a text that ends behind a statement", Scripts.good(check, "archive;food 1;").food(), 101);
        Scripts.good(check, "archive; \n ");
    }

    private static void rangesOfNumbers(Check check) {
        range(check, "reel ", 1, 9, ";");
        range(check, "scene ", 1, 9, ";");
        range(check, "cut 0 ", 1, 9999, ";");
        range(check, "feed 0 ", 1, 50, ";");
        range(check, "food ", 1, 999, ";");
        range(check, "paint 0 0 ", 1, 9, ";");
        range(check, "weeks ", 1, 50, ";");
        range(check, "repeat ", 1, 20, "();");
    }

    private static void range(Check check, String command, int least, int greatest, String behind) {
        Scripts.good(check, BASE + command + least + behind);
        Scripts.good(check, BASE + command + greatest + behind);
        bad(check, BASE + command + "^" + (least - 1) + behind, 2);
        bad(check, BASE + command + "^" + (greatest + 1) + behind, 2);
        bad(check, BASE + command + "^99999999" + behind, 2);
        bad(check, BASE + command + "^-1" + behind, 1);
    }

    private static void coloursWithZero(Check check) {
        check.due("colours(0)", Scripts.good(check, "archive;clip 1;").colours(0), 1);
        check.due("colours(0)", Scripts.good(check, "archive;clip 9;").colours(0), 9);
        check.due("colours(0)", Scripts.good(check, "archive;clip 11111111;").colours(0), 11111111);
        check.due("colours(0)", Scripts.good(check, "archive;clip 99999999;").colours(0), 99999999);
        for (String colours : new String[] {"0", "00", "10", "90", "101", "1011", "10111111", "11110111", "11111110", "99999990"}) {
            bad(check, "archive;clip ^" + colours + ";", 2);
        }
        bad(check, "archive;clip ^01;", 2);
    }

    private static void numbersThatDoNotExist(Check check) {
        exists(check, "sleep ", 0, 1, " 1;", "archive;clip 1;clip 1;reel 9;reel 9;");
        exists(check, "sleep 0 ", 0, 1, ";", "archive;clip 1;clip 1;reel 9;reel 9;");
        exists(check, "wake ", 0, 1, ";", "archive;clip 1;clip 1;reel 9;sleep 0 0;sleep 1 0;");
        exists(check, "cut ", 0, 4, " 1;", "archive;repeat 5(scene 1;);");
        exists(check, "air ", 0, 3, ";", "archive;repeat 4(reel 1;);");
        exists(check, "feed ", 0, 11, " 1;", "archive;repeat 12(clip 1;);");
        exists(check, "paint ", 0, 11, " 0 1;", "archive;repeat 12(clip 1;);");
        exists(check, "paint 0 ", 0, 7, " 1;", "archive;clip 12345678;");
        exists(check, "paint 1 ", 0, 0, " 1;", "archive;clip 12345678;clip 1;");
        for (String command : new String[] {"sleep ^0 0;", "wake ^0;", "cut ^0 1;", "air ^0;", "feed ^0 1;", "paint ^0 0 1;"}) {
            bad(check, "archive;" + command, 2);
        }
        bad(check, "archive;clip 1;sleep 0 ^0;", 2);
    }

    private static void exists(Check check, String command, int first, int last, String behind, String made) {
        Scripts.good(check, made + command + first + behind);
        Scripts.good(check, made + command + last + behind);
        bad(check, made + command + "^" + (last + 1) + behind, 2);
        bad(check, made + command + "^99999999" + behind, 2);
    }

    /** Before the mark stands the last command that is refused; a script without it is good. */
    private static void refusals(Check check) {
        refused(check, "archive;repeat 12(clip 1;);", "clip 1");
        refused(check, "archive;repeat 4(reel 1;);", "reel 1");
        refused(check, "archive;repeat 5(scene 1;);", "scene 1");
        refused(check, "archive;clip 1;reel 2;sleep 0 0;", "sleep 0 0");
        refused(check, "archive;clip 1;reel 2;feed 0 1;weeks 8;", "sleep 0 0");
        Scripts.good(check, "archive;clip 1;reel 2;feed 0 2;weeks 8;sleep 0 0;");
        refused(check, "archive;clip 1;clip 1;reel 1;sleep 0 0;", "sleep 1 0");
        refused(check, "archive;clip 1;reel 1;sleep 0 0;wake 0;", "wake 0");
        refused(check, "archive;clip 1;weeks 10;", "wake 0");
        refused(check, "archive;clip 1;clip 1;clip 1;feed 0 50;feed 1 49;feed 2 1;", "feed 2 1");
        refused(check, "archive;clip 1;food 1;feed 0 50;feed 0 9;", "feed 0 1");
        refused(check, "archive;clip 1;reel 1;sleep 0 0;", "feed 0 1");
        refused(check, "archive;clip 1;weeks 10;", "feed 0 1");
        refused(check, "archive;repeat 10(food 989;);food 9;", "food 1");
        refused(check, "archive;clip 1;reel 1;sleep 0 0;", "paint 0 0 1");
        refused(check, "archive;clip 1;weeks 10;", "paint 0 0 1");
        refused(check, "archive;repeat 19(weeks 50;);weeks 49;", "weeks 1");
        refused(check, "archive;repeat 19(weeks 50;);", "weeks 50");
        // a cut without a spring and the airing of an empty reel are not refused
        Scripts.good(check, "archive;reel 1;scene 1;clip 1;sleep 0 0;cut 0 1;cut 0 1;air 0;air 0;");
    }

    private static void refused(Check check, String before, String command) {
        Scripts.good(check, before);
        bad(check, before + command + "^;", 3);
        bad(check, before + command + " \n ^;nonsense", 3);
    }

    private static void thirdRepeat(Check check) {
        check.due("food() of a repeat inside another",
                Scripts.good(check, "archive;repeat 1(repeat 1(food 1;););").food(), 101);
        bad(check, "archive;repeat 1(repeat 1(^repeat 1(food 1;);););", 4);
        bad(check, "archive;repeat 1(repeat 1(food 1;^repeat", 4);
        bad(check, "archive;repeat 2(repeat 2(food 1;);repeat 2(^repeat 0", 4);
        check.due("food() of repeats behind one another",
                Scripts.good(check, "archive;repeat 2(repeat 2(food 1;);repeat 2(food 1;););repeat 2(repeat 2(food 1;););").food(),
                112);
        bad(check, "archive;repeat 2(repeat 2();food 1;repeat 2(food 1;^repeat 2();););", 4);
    }

    private static void command201(Check check) {
        check.due("food() of 200 commands", Scripts.good(check, TWO_HUNDRED).food(), 300);
        bad(check, TWO_HUNDRED + "^food 1;", 5);
        bad(check, TWO_HUNDRED + "^food 0;", 5);
        bad(check, TWO_HUNDRED + "^food", 5);
        bad(check, TWO_HUNDRED + " \n ^sleep 0 0;", 5);
        bad(check, "archive;food 1;repeat 20(repeat 10(^food 1;););", 5);
        bad(check, "archive;repeat 20(repeat 10(^food 1;);food 1;);", 5);
        bad(check, "archive;repeat 20(repeat 4(food 1;food 1;);food 1;food 1;);^food 1;", 5);
        check.due("food() with repeats behind 200 commands",
                Scripts.good(check, TWO_HUNDRED + "repeat 20(repeat 20(););repeat 20();").food(), 300);
        check.due("food() with repeats before 200 commands",
                Scripts.good(check, "archive;repeat 20(repeat 20(););repeat 20(repeat 10(food 1;););").food(), 300);
        // 199 commands leave room for one
        check.due("food() of the 200th command",
                Scripts.good(check, "archive;repeat 19(repeat 10(food 1;););repeat 9(food 1;);food 1;").food(), 300);
        bad(check, "archive;repeat 19(repeat 10(food 1;););repeat 9(food 1;);food 1;^food 1;", 5);
    }

    private static void executesTheBuffer(Check check) {
        ClipHibernation x = new ClipHibernation();
        check.due("runScript() of an empty buffer", x.runScript(), -1);
        check.due("scriptErrorKind()", x.scriptErrorKind(), 1);
        check.due("scriptErrorOffset()", x.scriptErrorOffset(), 0);
        Typed.type(x, "archive;clip 1;clip 2;");
        x.truncateInput(15);
        check.due("runScript() of what is left", x.runScript(), 1);
        check.due("runScript() once more", x.runScript(), -1);
        check.due("clipCount()", x.clipCount(), 1);
    }

    private static void replacesEverything(Check check) {
        ClipHibernation x = new ClipHibernation();
        x.passWeeks(50);
        x.addFood(999);
        Typed.run(x, "archive;");
        check.dueText("the archive of no command", Look.at(x), "week 0 food 100 burned 0 wakings 0 violations 0\n");
        check.due("fadedClips()", x.fadedClips(), 0);
        Typed.run(x, "archive;reel 2;scene 2;clip 1;");
        Typed.run(x, "archive;reel 9;scene 9;clip 22;");
        check.dueText("the archive of three commands", Look.at(x), "week 0 food 100 burned 0 wakings 0 violations 0\n"
                + "clip 22 state 0 fat 40 hash 64 in -1/-1 scene -1\nreel -1 -1 -1 -1 -1 -1 -1 -1 -1\nscene 9\n");
        bad(check, "archive;wake ^0;", 2);
        bad(check, "archive;clip 1;clip 1;clip 1;feed 0 50;feed 1 50;feed 2 1^;", 3);
    }

    private static void emptyAfterwards(Check check) {
        for (String text : new String[] {"", "archive;", "archive;clip 0;", "x", "archive;" + " ".repeat(592)}) {
            ClipHibernation x = new ClipHibernation();
            Typed.run(x, text);
            Twins.refuses(check, "truncateInput(1) after " + text, Wrong.BAD, () -> {
                ClipHibernation y = new ClipHibernation();
                Typed.run(y, text);
                return y;
            }, y -> y.truncateInput(1));
            check.due("append after " + text, x.append(0, 0, 0, 0, 0), 20);
        }
    }

    private static void onlyTheError(Check check) {
        for (String text : new String[] {"", "x", "archive;clip 7;food 9;weeks 9;nonsense", "archive;clip 0;", "archive;clip 1;wake 0;",
            "archive;repeat 1(repeat 1(repeat", TWO_HUNDRED + "food 1;"}) {
            ClipHibernation x = Made.rich();
            String report = Look.report(x);
            check.due("runScript() of " + text, Typed.run(x, text), -1);
            check.dueText("the report after " + text, Look.report(x), report);
            ClipHibernation before = Made.rich();
            before.truncateInput(0);
            before.runScript();
            // the errors differ, so both run the same bad script before they are taken apart
            Typed.run(x, "y");
            Typed.run(before, "y");
            check.dueText("everything after " + text, Twins.everything(x), Twins.everything(before));
        }
    }

    private static void answers(Check check) {
        ClipHibernation x = new ClipHibernation();
        check.due("runScript() of no clip", Typed.run(x, "archive;reel 9;scene 9;"), 0);
        check.due("runScript() of one clip", Typed.run(x, "archive;clip 1;"), 1);
        check.due("runScript() of 12 clips", Typed.run(x, "archive;repeat 12(clip 1;);"), 12);
        check.due("runScript() of 13 clips", Typed.run(x, "archive;repeat 13(clip 1;);"), -1);
        check.due("runScript() of faded clips", Typed.run(x, "archive;clip 1;clip 1;weeks 50;"), 2);
    }

    private static void kindOfTheLatest(Check check) {
        ClipHibernation x = new ClipHibernation();
        check.due("scriptErrorKind() of no script", x.scriptErrorKind(), 0);
        String[] texts = {"x", "archive;clip 0;", "archive;clip 1;wake 0;", "archive;repeat 1(repeat 1(repeat", TWO_HUNDRED + "food 1;"};
        for (int kind = 1; kind <= 5; kind++) {
            Typed.run(x, texts[kind - 1]);
            check.due("scriptErrorKind() of kind " + kind, x.scriptErrorKind(), kind);
        }
        Typed.run(x, "archive;");
        check.due("scriptErrorKind() without an error", x.scriptErrorKind(), 0);
        Typed.run(x, "x");
        x.undo();
        x.addFood(1);
        check.due("scriptErrorKind() after other calls", x.scriptErrorKind(), 1);
    }

    private static void offsetOfTheLatest(Check check) {
        ClipHibernation x = new ClipHibernation();
        check.due("scriptErrorOffset() of no script", x.scriptErrorOffset(), -1);
        Typed.run(x, "x");
        check.due("scriptErrorOffset() at the first byte", x.scriptErrorOffset(), 0);
        Typed.run(x, "archive;");
        check.due("scriptErrorOffset() without an error", x.scriptErrorOffset(), -1);
        Typed.run(x, "archive;" + " ".repeat(591) + ")");
        check.due("scriptErrorOffset() at the last byte", x.scriptErrorOffset(), 599);
        Typed.run(x, "archive;" + " ".repeat(586) + "weeks ");
        check.due("scriptErrorOffset() at the end of the text", x.scriptErrorOffset(), 600);
        x.runScript();
        check.due("scriptErrorOffset() of an empty text", x.scriptErrorOffset(), 0);
    }
}
