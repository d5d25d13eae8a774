/**
 * Each sentence of the document's sections 1 and 7, and of promises 2 to 7, that names an edge: the sentence stands
 * above its test. The sign ^ in a text marks the position of its error and is left out of it.
 */
public final class TextEdgeTest {
    private static final String[] SIDES = {"north", "east", "south", "west"};
    private static final String[] WORDS = {"board", "walls", "pawn", "ban", "block", "back", "again", "north", "east",
        "south", "west", "every", "at", "from", "to", "level", "upright", "step", "wall", "pass", "play", "repeat"};
    private static final String PAWN = "pawn a 1 1 north;";

    private TextEdgeTest() {
    }

    public static void main(String[] args) {
        bytesOfArguments();
        mostBytes();
        shorter();
        signs();
        lengthsOfWords();
        lengthsOfNumbers();
        spaces();
        board();
        numberOfWalls();
        wallsBehind();
        names();
        cellsOfPawns();
        every();
        cellsOfBans();
        placesOfBlocks();
        endsTooEarly();
        firstError();
        twice();
        oneBehindTheOther();
        shutUp();
        tooMany();
        errorsChangeNothing();
        goodTextReplaces();
        oneTextBehindAnother();
        oneScriptBehindAnother();
        errorOfTheLatest();
        numbersOfScripts();
        repeats();
        commandsOfText();
        rowsOfCommands();
        commandsDone();
        endAtACommand();
        endWithinRepeat();
        Check.end();
    }

    /** The text is read by a new object; it has no error. */
    private static void reads(String text) {
        PawnRace race = new PawnRace();
        Check.fill(race, text);
        Check.due("readText of " + text, Check.outcome(race::readText).startsWith("throws"), false);
        Check.due("errorCode of " + text, race.errorCode(), 0);
        Check.due("errorPosition of " + text, race.errorPosition(), PawnRace.NONE);
    }

    private static void readsIf(boolean good, String text, int code) {
        if (good) {
            reads(text.replace("^", ""));
        } else {
            TextTest.bad(text, code);
        }
    }

    /** A script that runs in an empty race, which is over: it has no error. */
    private static void readsScriptIf(boolean good, String script, int code) {
        PawnRace race = new PawnRace();
        Check.fill(race, script.replace("^", ""));
        String outcome = Check.outcome(race::runScript);
        Check.due("runScript of " + script, outcome.startsWith("throws"), !good);
        Check.due("errorCode of " + script, race.errorCode(), good ? 0 : code);
        Check.due("errorPosition of " + script, race.errorPosition(), good ? PawnRace.NONE : script.indexOf('^'));
    }

    // ---- the buffer

    /** "the four bytes of each argument, the most significant byte first": each of the 20 is found at its index. */
    private static void bytesOfArguments() {
        for (int at = 0; at < 20; at++) {
            int[] four = {0x20202020, 0x20202020, 0x20202020, 0x20202020, 0x20202020};
            four[at / 4] |= 0xff << (24 - at % 4 * 8);
            PawnRace race = new PawnRace();
            Check.due("feed", race.feed(four[0], four[1], four[2], four[3], four[4]), 20);
            Check.illegalArgument("a byte 255 at " + at, race::readText);
            Check.due("errorCode", race.errorCode(), 1);
            Check.due("errorPosition", race.errorPosition(), at);
        }
    }

    /** "at most 700 bytes"; "if it would exceed 700"; a call that throws changes nothing. */
    private static void mostBytes() {
        for (int length = 679; length <= 700; length++) {
            PawnRace race = new PawnRace();
            Check.fill(race, " ".repeat(length));
            boolean fits = length <= 680;
            Check.due("feed at " + length, Check.outcome(() -> race.feed(0x2c000000, 0, 0, 0, 0)),
                fits ? Integer.toString(length + 20) : "throws IllegalStateException");
            int now = fits ? length + 20 : length;
            Check.illegalArgument("truncate behind it", () -> race.truncate(now + 1));
            Check.due("truncate to as many as there are", race.truncate(now), now);
            Check.due("readText", Check.outcome(race::readText), fits ? "throws IllegalArgumentException" : "0");
            Check.due("errorPosition", race.errorPosition(), fits ? length : PawnRace.NONE);
            Check.due("the buffer is empty, feed", race.feed(0, 0, 0, 0, 0), 20);
        }
        PawnRace whole = new PawnRace();
        Check.fill(whole, "walls 9;" + " ".repeat(675) + "pawn a 0 0 north;");
        Check.due("700 bytes are read", whole.readText(), 1);
        Check.due("with the first ones", whole.pawn(0, 3), 9);
    }

    /** "if n is negative or greater than the present length"; what is cut off is gone, the rest stays. */
    private static void shorter() {
        PawnRace race = new PawnRace();
        for (int n : new int[] {Integer.MIN_VALUE, -1, 1, Integer.MAX_VALUE}) {
            Check.illegalArgument("truncate of none to " + n, () -> race.truncate(n));
        }
        Check.due("truncate of none to 0", race.truncate(0), 0);
        Check.fill(race, PAWN + "pawn b");
        for (int n : new int[] {Integer.MIN_VALUE, -1, 24, Integer.MAX_VALUE}) {
            Check.illegalArgument("truncate of 23 to " + n, () -> race.truncate(n));
        }
        Check.due("truncate to 23", race.truncate(23), 23);
        Check.due("truncate to 17", race.truncate(17), 17);
        Check.illegalArgument("truncate to 18", () -> race.truncate(18));
        Check.due("feed behind it", race.feed(0x62616e20, 0x61206261, 0x636b3b20, 0x20202020, 0x20202020), 37);
        Check.due("readText", race.readText(), 1);
        Check.due("the ban behind the cut", race.pawn(0, 7), 1);
        Check.illegalArgument("truncate of a buffer that was read", () -> race.truncate(1));
        Check.fill(race, PAWN);
        Check.due("truncate to 0", race.truncate(0), 0);
        Check.due("nothing is left", race.readText(), 0);
    }

    // ---- tokens

    /** "letters a to z", "digits", "; ( and )", "spaces (byte 32) and line feeds (byte 10)", "every other byte". */
    private static void signs() {
        for (int value = 0; value < 256; value++) {
            char sign = (char) value;
            boolean digit = value >= '0' && value <= '9';
            // with no token in its place, the next one is the wrong one
            int next = value == 32 || value == 10 ? 1 : 0;
            allowed(value >= 'a' && value <= 'z', "pawn ", sign, " 0 0 north;", next == 1 ? 7 : 5);
            allowed(digit, "walls ", sign, ";", 6 + next);
            allowed(sign == ';', "walls 3 ", sign, "", 8 + next);
            if (digit) {
                TextTest.bad("board 3" + sign + "3;", 2, 6);
            } else {
                allowed(next == 1, "board 3", sign, "3;", 7);
            }
            allowedInScript(sign == '(', "repeat 1 ", sign, ");", 9 + next);
            allowedInScript(sign == ')', "repeat 1(", sign, ";", 9 + next);
        }
    }

    private static void allowed(boolean good, String begin, char sign, String end, int position) {
        if (good) {
            reads(begin + sign + end);
        } else {
            TextTest.bad(begin + sign + end, 1, position);
        }
    }

    private static void allowedInScript(boolean good, String begin, char sign, String end, int position) {
        String outcome = good ? "0" : "throws IllegalArgumentException";
        TextTest.script(begin + sign + end, outcome, good ? 0 : 1, good ? PawnRace.NONE : position);
    }

    /** "A word is a maximal run of letters a to z, at most 8 of them"; "a longer run of letters". */
    private static void lengthsOfWords() {
        for (int length = 1; length <= 12; length++) {
            String name = "abcdefghijkl".substring(0, length);
            readsIf(length <= 8, "pawn ^" + name + " 1 1 north;", 1);
            readsIf(length <= 8, "pawn ^" + name + "1 1north;", 1);
        }
        // the run is not cut into a word and another one
        TextTest.bad("pawn a 1 1 ^northwalls 3;", 1);
        TextTest.bad("^pawnaaaaa 1 1 north;", 1);
        TextTest.bad("^wallswalls 3;", 1);
        TextTest.bad(PAWN + "ban ^abcdefghi back;", 1);
    }

    /** "A number N is a maximal run of digits, at most 3 of them"; "a longer run of digits". */
    private static void lengthsOfNumbers() {
        reads("walls 7;");
        reads("walls 07;");
        reads("walls 007;");
        TextTest.bad("walls ^0007;", 1);
        TextTest.bad("walls ^00000000007;", 1);
        TextTest.bad("walls ^999;", 2);
        TextTest.bad("walls ^1000;", 1);
        TextTest.bad("walls ^4294967303;", 1);
        TextTest.bad("board ^33;", 2);
        PawnRace race = TextTest.good("board 009 08;pawn a 01 001 north walls 010;", 1);
        Check.due("width", race.setting(0), 9);
        Check.due("height", race.setting(1), 8);
        Check.due("x", race.pawn(0, 0), 1);
        Check.due("walls", race.pawn(0, 3), 10);
    }

    /** "Spaces and line feeds may stand before, between and behind tokens." */
    private static void spaces() {
        String text = "board 4 4 ; walls 3 ; pawn a 0 0 north walls 2 ; ban a east from 0 0 to 1 1 ; block 0 0 level ;";
        for (String gap : new String[] {" ", "\n", "\n\n  ", "   \n"}) {
            PawnRace race = TextTest.good(gap + text.replace(" ", gap) + gap, 1);
            Check.due("all is read", Snapshot.of(race), Snapshot.of(Check.read(text)));
        }
        // none is needed but between two words or two numbers
        reads("board4 4;walls3;pawn a0 0north walls2;ban a east from0 0to1 1;block0 0level;");
        TextTest.bad("board4 4;walls3;pawn a0 0^northwalls2;", 1);
        reads("");
        reads(" ");
        reads("\n");
        readsScriptIf(true, "", 0);
        readsScriptIf(true, " \n ", 0);
        readsScriptIf(true, "\nrepeat\n2 (\n) ; ", 0);
        readsScriptIf(true, "repeat2(repeat3();step north;);wall0 0level;", 0);
    }

    // ---- numbers and their ranges

    /** "the width and the height of the board (3 to 9 each; 5 and 5 without it)" */
    private static void board() {
        for (int size = 0; size <= 12; size++) {
            boolean good = size >= 3 && size <= 9;
            readsIf(good, "board ^" + size + " 4;", 2);
            readsIf(good, "board 4 ^" + size + ";", 2);
            if (good) {
                PawnRace race = Check.read("board " + size + " 4;");
                Check.due("width", race.setting(0), size);
                Check.due("height", race.setting(1), 4);
                race = Check.read("board 4 " + size + ";");
                Check.due("width", race.setting(0), 4);
                Check.due("height", race.setting(1), size);
            }
        }
        TextTest.bad("board ^999 999;", 2);
        PawnRace race = Check.read("walls 3;");
        Check.due("width without it", race.setting(0), 5);
        Check.due("height without it", race.setting(1), 5);
    }

    /** "walls" and those of a pawn: "(0 to 20; 5 without it)", "(0 to 20)" */
    private static void numberOfWalls() {
        for (int number = 0; number <= 25; number++) {
            readsIf(number <= 20, "walls ^" + number + ";", 2);
            readsIf(number <= 20, "pawn a 1 1 north walls ^" + number + ";", 2);
            if (number <= 20) {
                PawnRace race = Check.read("walls " + number + ";" + PAWN);
                Check.due("walls of all", race.pawn(0, 3), number);
                race = Check.read("pawn a 1 1 north walls " + number + ";pawn b 2 2 north;");
                Check.due("its own number", race.pawn(0, 3), number);
                Check.due("without it", race.pawn(1, 3), 5);
            }
        }
    }

    /** "how many walls a pawn has that is defined behind it without its own number" */
    private static void wallsBehind() {
        PawnRace race = TextTest.good("pawn a 0 0 north;pawn b 1 0 north walls 7;walls 2;pawn c 2 0 north;"
            + "pawn d 3 0 north walls 9;", 4);
        int[] due = {5, 7, 2, 9};
        for (int pawn = 0; pawn < 4; pawn++) {
            Check.due("walls of " + pawn, race.pawn(pawn, 3), due[pawn]);
        }
        race = TextTest.good("walls 0;pawn a 0 0 north walls 20;pawn b 1 0 north;", 2);
        Check.due("its own number", race.pawn(0, 3), 20);
        Check.due("not the one of the pawn ahead", race.pawn(1, 3), 0);
    }

    /** "A NAME is any word, also one of those in quotes"; "their names are different". */
    private static void names() {
        for (String word : WORDS) {
            PawnRace race = TextTest.good("pawn b 0 0 north;pawn " + word + " 1 1 north;ban " + word + " back;", 2);
            Check.due("bans of " + word, race.pawn(1, 7), 1);
            Check.due("bans of b", race.pawn(0, 7), 0);
            TextTest.bad("pawn " + word + " 1 1 north;pawn ^" + word + " 2 2 north;", 4);
        }
        String[] four = {"a", "aa", "aaa", "ab"};
        StringBuilder text = new StringBuilder();
        for (int i = 0; i < 4; i++) {
            TextTest.bad(text + "ban ^" + four[i] + " back;", 4);
            text.append("pawn ").append(four[i]).append(' ').append(i).append(" 0 north;");
            for (int k = 0; k <= i && i < 3; k++) {
                TextTest.bad(text + "pawn ^" + four[k] + " 4 0 north;", 4);
            }
        }
        reads(text.toString());
    }

    /**
     * "the x and y of its cell": a cell on the board; "the y of a pawn if another one is at its cell; the side of a
     * pawn if its cell lies at this side": the greatest y, the greatest x, y 0, x 0.
     */
    private static void cellsOfPawns() {
        for (int x = 0; x <= 5; x++) {
            for (int y = 0; y <= 4; y++) {
                for (int side = 0; side < 4; side++) {
                    String text = "board 4 3;pawn o 1 1 north;pawn a ";
                    if (x > 3) {
                        TextTest.bad(text + "^" + x + " " + y + " " + SIDES[side] + ";", 2);
                        continue;
                    }
                    text = text + x + " ";
                    if (y > 2 || x == 1 && y == 1) {
                        TextTest.bad(text + "^" + y + " " + SIDES[side] + ";", y > 2 ? 2 : 4);
                        continue;
                    }
                    boolean[] lies = {y == 2, x == 3, y == 0, x == 0};
                    readsIf(!lies[side], text + y + " ^" + SIDES[side] + ";", 4);
                }
            }
        }
        // the place of a wall or the cell of a pawn on another line is no pawn at its cell
        reads("block 1 1 level;pawn a 1 1 north;pawn b 1 2 north;pawn c 2 1 north;pawn d 0 1 north;");
    }

    /** ""every" has a number from 2 to 5, "at" one less than that": 0 to n - 1, the remainders by n. */
    private static void every() {
        for (int n = 0; n <= 7; n++) {
            for (int r = 0; r <= 7; r++) {
                if (n < 2 || n > 5) {
                    TextTest.bad(PAWN + "ban a north every ^" + n + " at " + r + ";", 2);
                } else {
                    readsIf(r < n, PAWN + "ban a north every " + n + " at ^" + r + ";", 2);
                }
            }
        }
    }

    /** ""from" and "to" have the x and y of two cells." */
    private static void cellsOfBans() {
        int[] most = {3, 5, 3, 5};
        for (int which = 0; which < 4; which++) {
            for (int number = 0; number <= most[which] + 2; number++) {
                StringBuilder text = new StringBuilder("board 4 6;").append(PAWN).append("ban a west from");
                for (int i = 0; i < 4; i++) {
                    text.append(i == 2 ? " to " : " ").append(i == which ? "^" + number : "1");
                }
                readsIf(number <= most[which], text + ";", 2);
            }
        }
    }

    /** "a place that there is not": "x from 0 to the width less 2, y from 0 to the height less 2" */
    private static void placesOfBlocks() {
        for (String way : new String[] {"level", "upright"}) {
            for (int x = 0; x <= 5; x++) {
                for (int y = 0; y <= 7; y++) {
                    if (x > 2) {
                        TextTest.bad("board 4 6;block ^" + x + " " + y + way + ";", 2);
                    } else {
                        readsIf(y <= 4, "board 4 6;block " + x + " ^" + y + way + ";", 2);
                    }
                }
            }
        }
    }

    // ---- positions, and which error is told

    /** "the index of the first byte of a token, or the length of the text if it ends too early" */
    private static void endsTooEarly() {
        String text = "board 5 5 ;walls 3 ;pawn a 0 0 north walls 2 ;pawn b 1 1 south ;ban a back ;ban a again ;"
            + "ban b west every 3 at 1 ;ban b east from 0 0 to 1 1 ;block 0 0 level ;block 2 2 upright ;";
        for (int length = 0; length <= text.length(); length++) {
            boolean atEnd = length == text.length();
            if (!atEnd && text.charAt(length) != ' ' && text.charAt(length) != ';') {
                continue;
            }
            String begin = text.substring(0, length);
            boolean whole = begin.isEmpty() || begin.endsWith(";");
            readsIf(whole, begin + "^", 1);
            readsIf(whole, begin + " \n ^", 1);
        }
        String script = "step north ;wall 0 1 level ;pass ;play 1 2 ;repeat 2 ( pass ;repeat 3 ( play 0 1 ; ) ; ) ;";
        int depth = 0;
        for (int length = 0; length <= script.length(); length++) {
            char last = length == 0 ? ';' : script.charAt(length - 1);
            depth += last == '(' ? 1 : last == ')' ? -1 : 0;
            boolean atEnd = length == script.length();
            if (atEnd || script.charAt(length) == ' ' || script.charAt(length) == ';') {
                readsScriptIf(last == ';' && depth == 0, script.substring(0, length) + "^", 1);
                readsScriptIf(last == ';' && depth == 0, script.substring(0, length) + "  ^", 1);
            }
        }
    }

    /** "a token that the grammar does not allow here"; "the first error is reported". */
    private static void firstError() {
        String[] text = ("board 5 5 ; walls 3 ; pawn a 0 0 north walls 2 ; pawn b 1 1 south ; ban a back ; "
            + "ban a again ; ban b west every 3 at 1 ; ban b east from 0 0 to 1 1 ; block 0 0 level ; "
            + "block 2 2 upright ;").split(" ");
        for (int wrong = 0; wrong < text.length; wrong++) {
            // a NAME may be any word, and that there is none of it is an error of its own
            boolean name = wrong > 0 && (text[wrong - 1].equals("pawn") || text[wrong - 1].equals("ban"));
            for (String instead : new String[] {"?", ")", "(", "play", "01234", "a"}) {
                if (!name || instead.equals("?") || instead.equals("01234")) {
                    TextTest.bad(String.join(" ", replaced(text, wrong, "^" + instead)), 1);
                    String[] two = replaced(text, wrong, "^" + instead);
                    if (wrong + 2 < two.length) {
                        two[wrong + 2] = "?";
                        TextTest.bad(String.join(" ", two), 1);
                    }
                }
            }
        }
        // an invalid token behind an error of another code is not told, and one ahead of it is
        TextTest.bad("board ^2 5 ?", 2);
        TextTest.bad("board ^? 2;", 1);
        TextTest.bad("walls 3;^walls ?", 3);
        TextTest.bad("pawn a 1 1 north;pawn ^a ?", 4);
        TextTest.bad("block 0 0 level;block 0 0 level^; ?", 5);
        TextTest.bad("block 0 0 level;block 0 0 level ^? ;", 1);
    }

    private static String[] replaced(String[] text, int wrong, String instead) {
        String[] copy = text.clone();
        copy[wrong] = instead;
        return copy;
    }

    /** "the first word of a second "board" or "walls", or of a "board" behind a pawn or a block" */
    private static void twice() {
        TextTest.bad("board 5 5;^board", 3);
        TextTest.bad("board 5 5;walls 3;^board 5 5;", 3);
        TextTest.bad("walls 3;board 5 5;^walls 3;", 3);
        TextTest.bad("walls 3;^walls", 3);
        TextTest.bad("walls 3;" + PAWN + "ban a back;^walls 3;", 3);
        TextTest.bad(PAWN + "^board 5 5;", 3);
        TextTest.bad(PAWN + "ban a back;^board 5 5;", 3);
        TextTest.bad("block 0 0 level;^board 5 5;", 3);
        TextTest.bad("walls 3;block 0 0 level;walls 3;".replace(";walls", ";^walls"), 3);
        reads("walls 3;board 5 5;");
        reads(PAWN + "block 0 0 level;walls 3;");
    }

    /** Blocks are admissible "among the pawns and blocks told ahead": none at the place, none of the way beside. */
    private static void oneBehindTheOther() {
        String[] ways = {"level", "upright"};
        for (int way = 0; way < 2; way++) {
            for (int x = 0; x < 4; x++) {
                for (int y = 0; y < 4; y++) {
                    for (int other = 0; other < 2; other++) {
                        boolean same = x == 1 && y == 2;
                        boolean beside = other == way && (way == 0 ? y == 2 && (x == 0 || x == 2)
                            : x == 1 && (y == 1 || y == 3));
                        readsIf(!same && !beside, "block 1 2 " + ways[way] + ";block " + x + " " + y + " "
                            + ways[other] + " ^;", 5);
                    }
                }
            }
        }
        // at the edges of the places there is nothing beside
        reads("block 0 0 level;block 3 1 level;block 0 2 upright;block 2 0 level;");
        reads("board 9 9;block 7 0 level;block 0 1 level;block 0 7 upright;block 1 0 upright;");
    }

    /** "the semicolon of a "block" that is not admissible .., or of a "pawn" that has no way to its side" */
    private static void shutUp() {
        String corner = "block 0 1 level;block 1 0 upright";
        TextTest.bad("pawn a 1 1 north;" + corner + "^;", 5);
        TextTest.bad("pawn b 4 4 south;pawn a 1 1 east;" + corner + " ^;", 5);
        reads("pawn a 1 1 south;pawn b 4 4 south;pawn c 2 1 east;" + corner + ";");
        TextTest.bad(corner + ";pawn a 1 1 north^;", 5);
        TextTest.bad(corner + ";pawn a 0 0 east walls 0 ^;", 5);
        TextTest.bad(corner + ";pawn b 4 4 west;pawn a 1 0 north^;", 5);
        reads(corner + ";pawn a 1 1 south;pawn b 0 1 south;pawn c 1 0 west;pawn d 4 4 south;");
        // one told behind does not matter
        reads(corner + ";pawn a 4 0 north;");
    }

    /** "at most 4", "at most 12 in all", "at most 40"; "the first word of a 5th pawn, a 13th ban or a 41st block" */
    private static void tooMany() {
        String pawns = "pawn a 0 0 north;pawn b 1 0 north;pawn c 2 0 north;pawn d 3 0 north;";
        TextTest.good(pawns, 4);
        TextTest.bad(pawns + "^pawn a 0 0 south;", 6);
        TextTest.bad(pawns + "^pawn ?", 6);
        TextTest.bad(pawns + "block 0 0 level;ban a back; ^pawn e 4 0 north;", 6);
        for (String of : new String[] {"a", "b"}) {
            String twelve = "pawn a 0 0 north;pawn b 1 0 north;" + ("ban a back;ban " + of + " again;").repeat(6);
            Check.due("bans", TextTest.good(twelve, 2).setting(6), 12);
            TextTest.bad(twelve + "^ban b back;", 6);
            TextTest.bad(twelve + "^ban", 6);
            TextTest.bad(twelve + "^ban x", 6);
        }
        StringBuilder blocks = new StringBuilder("board 9 9;");
        for (int i = 0; i < 40; i++) {
            blocks.append("block").append(i % 8).append(' ').append(i / 8);
            blocks.append((i + i / 8) % 2 == 0 ? "upright;" : "level;");
        }
        Check.due("blocks", TextTest.good(blocks.toString(), 0).setting(3), 40);
        TextTest.bad(blocks + "^block 0 7 level;", 6);
        TextTest.bad(blocks + "^block", 6);
        TextTest.bad(blocks + "^block 9", 6);
        TextTest.good(blocks + "pawn a 4 8 east;", 1);
    }

    // ---- what a text changes

    private static PawnRace used() {
        PawnRace race = Check.read("board 4 4;pawn a 0 0 north;pawn b 3 3 south walls 2;ban a back;block 0 1 level;");
        race.step(1);
        race.build(2, 2, true);
        race.save();
        race.step(0);
        race.report();
        return race;
    }

    /** What stays in used() behind a text with an error, and is still there to be taken back. */
    private static void isAsUsed(PawnRace race, String before, int undone) {
        Check.due("the race stays", Snapshot.of(race), before);
        Check.due("the report stays", race.reportByte(3), '1');
        Check.due("the buffer is empty", race.truncate(0), 0);
        Check.illegalArgument("the buffer is empty", () -> race.truncate(1));
        Check.due("undo stays", race.undo(), undone);
        Check.due("the saved race stays", race.restore(), 2);
    }

    /** readText() and runScript(): "only the buffer, errorCode() and errorPosition() change then". */
    private static void errorsChangeNothing() {
        String[] texts = {"?", "board 9 9;pawn a 0 0 north;pawn a", "board 2 2;",
            "board 3 3;walls 9;block 0 0 level;block", "board 3 3;block 0 0 level;;",
            "pawn x 3 3 west;pawn y 2 2 west;ban x back;ban y again;ban z back;"};
        String[] scripts = {"?", "step south;step", "step south;play 0 100;", "play 0 3;repeat 2 (pass;",
            "repeat 1(repeat 1(repeat 1();););", "pass;".repeat(31)};
        for (int i = 0; i < texts.length + scripts.length; i++) {
            boolean isText = i < texts.length;
            PawnRace race = used();
            String before = Snapshot.of(race);
            Check.fill(race, isText ? texts[i] : scripts[i - texts.length]);
            Check.illegalArgument("text " + i, () -> isText ? race.readText() : race.runScript());
            Check.due("errorCode is told", race.errorCode() > 0, true);
            isAsUsed(race, before, 2);
        }
    }

    /** readText() "replaces all that there is but the saved race and the latest report (no turn was made then)". */
    private static void goodTextReplaces() {
        PawnRace race = used();
        Check.fill(race, "pawn x 3 3 west;");
        Check.due("readText", race.readText(), 1);
        Check.due("all is new", Snapshot.of(race), Snapshot.of(Check.read("pawn x 3 3 west;")));
        Check.due("undo is forgotten", race.undo(), PawnRace.NONE);
        Check.due("the report stays", race.reportByte(3), '1');
        Check.outOfBounds("the report stays", () -> race.reportByte(27));
        Check.due("the saved race stays", race.restore(), 2);
        Check.due("as it was", race.pawn(1, 3), 1);
        Check.due("an empty text", race.readText(), 0);
        Check.due("is a new object", Snapshot.of(race), Snapshot.of(new PawnRace()));
    }

    /** "replaces all that there is": by every second text as by a new object, whatever was read ahead of it. */
    private static void oneTextBehindAnother() {
        String pawns = "pawn a 1 1 north;pawn b 2 2 south;";
        String[] texts = {"", "board 9 3;" + pawns.replace("2 2", "2 1"), "walls 7;" + pawns, pawns + "ban a back;",
            pawns + "ban a again;ban b east from 2 1 to 3 4;ban a back;",
            pawns + "ban a north every 2 at 0;ban a back;",
            pawns + "ban b east from 0 0 to 4 4;ban a west every 3 at 2;", "block 0 0 level;block 3 3 upright;" + pawns,
            "walls 2;pawn c 3 1 west;pawn a 0 0 east;pawn d 4 4 south;pawn b 1 2 north walls 9;", "board 4 9;?",
            "board 9 4;walls 9;" + pawns + "ban a again;block 7 2 level;block"};
        for (String first : texts) {
            for (String second : texts) {
                PawnRace race = new PawnRace();
                Check.fill(race, first);
                String outcome = Check.outcome(race::readText);
                Check.fill(race, second);
                boolean bad = Check.outcome(race::readText).startsWith("throws");
                String left = !bad ? second : outcome.startsWith("throws") ? "" : first;
                Check.due("an error in " + second, bad, second.equals(texts[9]) || second.equals(texts[10]));
                Check.due(first + " and " + second, asked(race), asked(Check.read(left)));
            }
        }
    }

    /** The race as it is, and behind some turns, in which rules and ways matter. */
    private static String asked(PawnRace race) {
        StringBuilder text = new StringBuilder(Snapshot.of(race));
        for (int pawn = 0; pawn < race.setting(2); pawn++) {
            text.append(' ').append(race.stepsWithBans(pawn)).append(' ').append(race.distance(pawn));
        }
        race.play(0, 3);
        return text.append(race.admissible()).append(Snapshot.of(race)).toString();
    }

    /** What a script is does not depend on the one ahead of it, nor on an error of that one. */
    private static void oneScriptBehindAnother() {
        String[] scripts = {"", "play 0 1;", "play 0 1;".repeat(30), "pass;".repeat(31), "repeat 2(repeat 2(play 0 1;",
            "repeat 2(?", "repeat 2(repeat 3(play 0 1;););", "repeat 1(repeat 1(repeat 1();););",
            "repeat 1();".repeat(30)};
        int[] done = {0, 1, 30, -1, -1, -1, 6, -1, 0};
        for (int first = 0; first < scripts.length; first++) {
            for (int second = 0; second < scripts.length; second++) {
                PawnRace race = toAndFro();
                for (int i : new int[] {first, second}) {
                    Check.fill(race, scripts[i]);
                    Check.due("runScript of " + scripts[i], Check.outcome(race::runScript),
                        done[i] < 0 ? "throws IllegalArgumentException" : Integer.toString(done[i]));
                }
                Check.due("turns", race.setting(4), Math.max(done[first], 0) + Math.max(done[second], 0));
            }
        }
    }

    /** "the error of the latest readText() or runScript(); 0 if there was none or no such call"; NONE likewise. */
    private static void errorOfTheLatest() {
        PawnRace race = new PawnRace();
        error(race, 0, PawnRace.NONE);
        race.feed(0x20203f3f, 0, 0, 0, 0);
        error(race, 0, PawnRace.NONE);
        Check.illegalArgument("readText", race::readText);
        error(race, 1, 2);
        Check.fill(race, "play 0 100;");
        error(race, 1, 2);
        Check.illegalArgument("runScript", race::runScript);
        error(race, 2, 7);
        race.report();
        race.play(0, 1);
        Check.illegalArgument("truncate", () -> race.truncate(9));
        error(race, 2, 7);
        Check.fill(race, "step north;");
        Check.due("a script that ends early has no error", race.runScript(), 0);
        error(race, 0, PawnRace.NONE);
        Check.fill(race, "walls 3;walls 4;");
        Check.illegalArgument("readText", race::readText);
        error(race, 3, 8);
        Check.due("readText", race.readText(), 0);
        error(race, 0, PawnRace.NONE);
        Check.fill(race, "repeat");
        Check.illegalArgument("runScript", race::runScript);
        error(race, 1, 6);
        Check.due("readText", race.readText(), 0);
        error(race, 0, PawnRace.NONE);
    }

    private static void error(PawnRace race, int code, int position) {
        Check.due("errorCode", race.errorCode(), code);
        Check.due("errorPosition", race.errorPosition(), position);
    }

    // ---- scripts

    /** "numbers are 0 to 99, of "repeat" 1 to 20" */
    private static void numbersOfScripts() {
        for (int number : new int[] {0, 1, 2, 98, 99, 100, 101, 200, 999}) {
            boolean good = number <= 99;
            readsScriptIf(good, "wall ^" + number + " 0 level;", 2);
            readsScriptIf(good, "wall 0 ^" + number + " upright;", 2);
            readsScriptIf(good, "play ^" + number + " 1;", 2);
            readsScriptIf(good, "play 0 ^" + number + ";", 2);
        }
        for (int number = 0; number <= 25; number++) {
            readsScriptIf(number >= 1 && number <= 20, "repeat ^" + number + "();", 2);
        }
        readsScriptIf(false, "repeat ^100();", 2);
        readsScriptIf(false, "repeat ^0001();", 1);
        readsScriptIf(false, "^wal 0 0 level;", 1);
        readsScriptIf(false, "^walls 0 0 level;", 1);
        readsScriptIf(false, "step ^level;", 1);
        readsScriptIf(false, "wall 0 0 ^east;", 1);
        for (String side : SIDES) {
            readsScriptIf(true, "step " + side + ";", 0);
        }
    }

    /** "the first word of a "repeat" within two others"; a script within a "repeat" may be empty. */
    private static void repeats() {
        readsScriptIf(true, "repeat 1(repeat 1(););repeat 1(repeat 1();repeat 1(););repeat 1();", 0);
        readsScriptIf(false, "repeat 1(repeat 1(^repeat 1();););", 3);
        readsScriptIf(false, "repeat 1(repeat 1();repeat 1(pass;^repeat", 3);
        readsScriptIf(false, "repeat 1(repeat 1(););^);", 1);
        readsScriptIf(false, "repeat 1(repeat 1(^;););", 1);
        readsScriptIf(false, "repeat 1 ^1 ();", 1);
        // one round is the least, and each round does all of its commands
        rounds("repeat 1(play 0 1;play 0 1;);", 2);
        rounds("repeat 3(play 0 1;play 0 1;);", 6);
        rounds("repeat 3(repeat 2(play 0 1;play 0 1;););play 0 1;", 13);
        rounds("repeat 2(repeat 3();play 0 1;repeat 1(play 0 1;););", 4);
        rounds("repeat 2(repeat 2(play 0 1;play 0 1;);repeat 3(play 0 1;play 0 1;););", 20);
        rounds("repeat 2(play 0 1;repeat 2(play 0 1;););repeat 4(play 0 1;);", 10);
        rounds("repeat 20(play 0 1;);repeat 19(play 0 1;);", 39);
    }

    private static void rounds(String script, int done) {
        PawnRace race = toAndFro();
        Check.due("commands done of " + script, Check.run(race, script), done);
        Check.due("turns of " + script, race.setting(4), done);
    }

    /** "the first word of a 31st command of the text ("repeat" counts as one, too)"; the lowest code of several. */
    private static void commandsOfText() {
        for (int repeats = 0; repeats <= 3; repeats++) {
            String begin = "repeat 1();".repeat(repeats);
            readsScriptIf(true, begin + "pass;".repeat(30 - repeats), 0);
            for (String command : new String[] {"step north;", "wall 0 0 level;", "pass;", "play 0 1;", "repeat 1();",
                "pass", "repeat"}) {
                readsScriptIf(false, begin + "pass;".repeat(30 - repeats) + "^" + command, 6);
            }
            readsScriptIf(false, begin + "pass;".repeat(30 - repeats) + "^level;", 1);
        }
        String two = "repeat 1(repeat 1(";
        readsScriptIf(true, two + "pass;".repeat(28) + "););", 0);
        readsScriptIf(false, two + "pass;".repeat(28) + "^pass;););", 6);
        readsScriptIf(false, two + "pass;".repeat(27) + "^repeat 1();", 3);
        readsScriptIf(false, two + "pass;".repeat(28) + "^repeat 1();", 3);
        readsScriptIf(false, two + "pass;".repeat(28) + ");^repeat 1();", 6);
    }

    /** The most commands, and the most ends of "repeat"s among them: the last ones are done as well. */
    private static void rowsOfCommands() {
        rounds("repeat 1();".repeat(29) + "play 0 1;", 1);
        rounds("repeat 1();".repeat(28) + "repeat 3(play 0 1;);", 3);
        rounds("repeat 2(play 0 1;);".repeat(15), 30);
        rounds("repeat 1(repeat 2(play 0 1;););".repeat(10), 20);
        rounds("repeat 2(" + "repeat 1();".repeat(28) + "play 0 1;);", 2);
    }

    /** "It also ends early when 40 commands ("repeat" not counted) were done." */
    private static void commandsDone() {
        String[] scripts = {"repeat 20(play 0 1;play 0 1;);", "repeat 20(play 0 1;play 0 1;play 0 1;);",
            "repeat 20(repeat 20(play 0 1;););step north;", "repeat 13(play 0 1;play 0 1;play 0 1;);play 0 1;play 0 1;",
            "repeat 20(play 0 1;);repeat 20(play 0 1;);play 0 1;",
            "repeat 2(repeat 20(play 0 1;););repeat 5();play 0 1;"};
        for (String script : scripts) {
            PawnRace race = toAndFro();
            Check.due("done of " + script, Check.run(race, script), 40);
            Check.due("turns of " + script, race.setting(4), 40);
            Check.due("errorCode", race.errorCode(), 0);
        }
        PawnRace race = toAndFro();
        Check.due("39 are done", Check.run(race, "repeat 13(play 0 1;play 0 1;play 0 1;);"), 39);
        Check.due("turns", race.setting(4), 39);
        race = toAndFro();
        Check.due("a play is one command", Check.run(race, "repeat 20(play 0 9;);"), 20);
        Check.due("turns", race.setting(4), 180);
        Check.due("a play is done if the race is over", Check.run(race, "repeat 20(play 1 9;);step north;"), 20);
        Check.due("turns", race.setting(4), 200);
    }

    /** No pawn can leave its row, nor come to its side. */
    private static PawnRace toAndFro() {
        return Check.read("pawn a 0 0 north;pawn b 4 4 south;ban a north from 0 0 to 4 0;ban b south from 0 4 to 4 4;");
    }

    /**
     * "A script ends at a command whose method would throw ..; the commands before stay done, and it is not counted."
     */
    private static void endAtACommand() {
        String[] ends = {"step south", "step east", "wall 4 0 level", "wall 0 4 upright", "wall 99 99 level",
            "wall 2 0 upright", "wall 1 0 level", "wall 3 0 level", "wall 2 1 upright", "pass", "play 2 1", "play 99 1",
            "play 0 0", "play 1 0"};
        for (String end : ends) {
            PawnRace race = Check.read("pawn a 0 0 north walls 1;pawn b 4 4 south;block 2 0 level;block 2 2 upright;"
                + "ban a east from 0 0 to 0 0;");
            Check.due("done ahead of " + end, Check.run(race, "step north;step west;step south;step west;" + end
                + ";wall 0 3 level;step north;"), 4);
            Check.due("turns", race.setting(4), 4);
            Check.due("errorCode", race.errorCode(), 0);
            Check.due("errorPosition", race.errorPosition(), PawnRace.NONE);
            Check.due("b has gone west twice", race.pawn(1, 0), 2);
            Check.due("undo as a whole", race.undo(), 0);
            Check.due("turns", race.setting(4), 0);
        }
        PawnRace walls = Check.read("pawn a 0 0 north walls 0;pawn b 4 4 south walls 1;");
        Check.due("a has no wall", Check.run(walls, "wall 0 0 level;"), 0);
        Check.due("b has one", Check.run(walls, "step north;wall 0 0 level;step south;wall 0 2 level;"), 2);
        PawnRace shut = Check.read("pawn a 1 0 north;pawn b 4 4 south;block 0 1 level;");
        Check.due("it would shut a up", Check.run(shut, "wall 1 0 upright;step east;"), 0);
        PawnRace over = Check.read("pawn a 0 3 north;pawn b 4 4 south;");
        Check.due("the race is over", Check.run(over, "step north;step south;"), 1);
        for (String end : new String[] {"step south;", "wall 0 0 level;", "pass;"}) {
            Check.due("the race is over", Check.run(over, end + "play 0 1;"), 0);
        }
        Check.due("a play is done still", Check.run(over, "play 0 1;play 1 99;"), 2);
    }

    /** "also within a "repeat"": neither the other rounds nor the commands behind are done. */
    private static void endWithinRepeat() {
        PawnRace race = Check.read("pawn a 0 0 north;pawn b 4 4 south;");
        // a goes east to the cell 4, 0, b west to the cell 0, 4; then neither can go on
        Check.due("done", Check.run(race, "repeat 5(step east;step west;);step north;"), 8);
        Check.due("turns", race.setting(4), 8);
        Check.due("x of a", race.pawn(0, 0), 4);
        Check.due("y of a", race.pawn(0, 1), 0);
        race = Check.read("pawn a 0 0 north;pawn b 4 4 south;");
        Check.due("done", Check.run(race, "repeat 9(repeat 2(step east;step west;);pass;);step north;"), 4);
        Check.due("turns", race.setting(4), 4);
        Check.due("x of a", race.pawn(0, 0), 2);
    }
}
