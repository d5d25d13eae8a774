/** Promises 1 to 8 as far as they read texts: the buffer, and the errors with their codes and positions. */
public final class TextTest {
    private TextTest() {
    }

    public static void main(String[] args) {
        buffer();
        goodTexts();
        tokens();
        ranges();
        doubles();
        names();
        walls();
        tooMany();
        afterAnError();
        goodScripts();
        scriptErrors();
        Check.end();
    }

    private static void buffer() {
        PawnRace race = new PawnRace();
        Check.illegalArgument("truncate(-1)", () -> race.truncate(-1));
        Check.illegalArgument("truncate(1)", () -> race.truncate(1));
        Check.due("truncate(0)", race.truncate(0), 0);
        for (int i = 1; i <= 35; i++) {
            Check.due("feed", race.feed(0x3b000000, 0, 0, 0, 0), 20 * i);
        }
        Check.illegalState("feed over 700", () -> race.feed(0, 0, 0, 0, 0));
        Check.due("truncate(681)", race.truncate(681), 681);
        Check.illegalState("feed over 700", () -> race.feed(0, 0, 0, 0, 0));
        Check.illegalArgument("truncate(682)", () -> race.truncate(682));
        Check.due("truncate(680)", race.truncate(680), 680);
        Check.due("feed to 700", race.feed(0, 0, 0, 0, 0), 700);
        Check.illegalArgument("readText", () -> race.readText());
        Check.due("truncate, emptied", race.truncate(0), 0);
        Check.illegalArgument("truncate, emptied", () -> race.truncate(1));
        // each of the five arguments gives four bytes, the most significant one first
        race.feed(0x626f6172, 0x64203420, 0x333b2020, 0x20202020, 0x20200a0a);
        Check.due("readText", race.readText(), 0);
        Check.due("width", race.setting(0), 4);
        Check.due("height", race.setting(1), 3);
        race.feed(-1, 0, 0, 0, 0);
        race.truncate(1);
        Check.illegalArgument("a byte 255", () -> race.readText());
    }

    static PawnRace good(String text, int pawns) {
        PawnRace race = new PawnRace();
        Check.fill(race, text);
        Check.due("readText of " + text, Check.outcome(race::readText), Integer.toString(pawns));
        Check.due("errorCode of " + text, race.errorCode(), 0);
        Check.due("errorPosition of " + text, race.errorPosition(), PawnRace.NONE);
        return race;
    }

    static void bad(String text, int code, int position) {
        PawnRace race = new PawnRace();
        Check.fill(race, text);
        Check.illegalArgument("readText of " + text, () -> race.readText());
        Check.due("errorCode of " + text, race.errorCode(), code);
        Check.due("errorPosition of " + text, race.errorPosition(), position);
        Check.illegalArgument("truncate behind " + text, () -> race.truncate(1));
    }

    /** The error is at the sign ^ in the text, which is left out of it. */
    static void bad(String text, int code) {
        bad(text.replace("^", ""), code, text.indexOf('^'));
    }

    private static void goodTexts() {
        good("", 0);
        good(" \n  ", 0);
        good("board3 9;walls20;", 0);
        PawnRace race = good("walls 7 ; pawn a 1 1 north; pawn b 2 2 east walls 0;pawn c 3 3 west walls 20;", 3);
        Check.due("walls of a", race.pawn(0, 3), 7);
        Check.due("walls of b", race.pawn(1, 3), 0);
        Check.due("walls of c", race.pawn(2, 3), 20);
        race = good("pawn a 1 1 north;walls 0;pawn b 2 2 east;", 2);
        Check.due("walls of a", race.pawn(0, 3), 5);
        Check.due("walls of b", race.pawn(1, 3), 0);
        race = good("pawn pawn 001 1 north;pawn north 2 02 south;pawn level 3 3 east;ban north again;"
            + "ban level west from 4 4 to 0 0;ban pawn south every 5 at 4;ban level back;", 3);
        Check.due("bans", race.setting(6), 4);
        Check.due("bans of pawn", race.pawn(0, 7), 1);
        Check.due("bans of north", race.pawn(1, 7), 1);
        Check.due("bans of level", race.pawn(2, 7), 2);
        Check.due("x", race.pawn(2, 0), 3);
        Check.due("side", race.pawn(2, 2), 1);
        race = good("block 0 0 level;block 2 0 level;block 1 0 upright;walls 1;", 0);
        Check.due("blocks", race.setting(3), 3);
        Check.due("width", race.setting(0), 5);
        Check.due("height", race.setting(1), 5);
        good("pawn abcdefgh 0 0 north;pawn abcdefg 1 0 north;pawn z 2 0 north;pawn az 3 0 north;", 4);
        good("pawn ab 0 0 north;pawn bb 1 0 north;pawn aa 2 0 north;", 3);
        // a board may be read behind walls and in another size than the one before
        race = good("walls 3;board 9 3;pawn a 8 2 west;", 1);
        Check.due("walls", race.pawn(0, 3), 3);
    }

    private static void tokens() {
        bad("^foo;", 1);
        bad("^;", 1);
        bad("^5;", 1);
        bad("^Board 5 5;", 1);
        bad("^goard 5 5;", 1);
        bad("^boare 5 5;", 1);
        bad("^boar 5 5;", 1);
        bad("^zlock 0 0 level;", 1);
        bad("board 5 5^", 1);
        bad("board 5 5  ^", 1);
        bad("board 5^", 1);
        bad("board^", 1);
        bad("board ^;", 1);
        bad("board 5 ^a;", 1);
        bad("board ^0005 5;", 1);
        bad("board 5 ^5555;", 1);
        bad("board 5 5 ^5;", 1);
        bad("board 5 5^,", 1);
        bad("board^\t5 5;", 1);
        bad("^pawnpawnp a 1 1 north;", 1);
        bad("^boarda 5 5;", 1);
        bad("pawn ^abcdefghi 1 1 north;", 1);
        bad("pawn ^1 1 1 north;", 1);
        bad("pawn a 1 1 ^up;", 1);
        bad("pawn a 1 1 north ^wall 3;", 1);
        bad("pawn a 1 1 north walls ^;", 1);
        bad("pawn a 1 1 north walls 3 ^walls 3;", 1);
        bad("pawn a 1 1 north ^(", 1);
        bad("pawn a 1 1 north;ban a ^level;", 1);
        bad("pawn a 1 1 north;ban a north ^to 1 1 to 2 2;", 1);
        bad("pawn a 1 1 north;ban a north every 2 ^to 1;", 1);
        bad("pawn a 1 1 north;ban a north from 1 1 ^at 2 2;", 1);
        bad("pawn a 1 1 north;ban a ^every 2 at 1;", 1);
        bad("pawn a 1 1 north;ban a back ^back;", 1);
        bad("block 0 0 ^north;", 1);
        bad("block 0 0 level^", 1);
        bad("walls ^;", 1);
        bad("walls 5^", 1);
        bad("board 5 5;^)", 1);
        bad("^\u00e9", 1);
        bad("board 5 5;^\u0000", 1);
    }

    private static void ranges() {
        bad("board ^2 5;", 2);
        bad("board 5 ^10;", 2);
        bad("board ^999 5;", 2);
        bad("board 3 ^0;", 2);
        bad("walls ^21;", 2);
        bad("board 3 4;pawn a ^3 0 north;", 2);
        bad("board 3 4;pawn a 2 ^4 south;", 2);
        bad("pawn a ^5 0 north;", 2);
        bad("pawn a 1 1 north walls ^21;", 2);
        bad("pawn a 1 1 north;ban a north every ^1 at 0;", 2);
        bad("pawn a 1 1 north;ban a north every ^6 at 0;", 2);
        bad("pawn a 1 1 north;ban a north every 3 at ^3;", 2);
        bad("pawn a 1 1 north;ban a north from ^5 1 to 2 2;", 2);
        bad("pawn a 1 1 north;ban a north from 1 ^5 to 2 2;", 2);
        bad("pawn a 1 1 north;ban a north from 1 1 to ^5 2;", 2);
        bad("pawn a 1 1 north;ban a north from 1 1 to 2 ^5;", 2);
        bad("block ^4 0 level;", 2);
        bad("block 0 ^4 level;", 2);
        bad("board 9 3;block 7 ^2 level;", 2);
        good("board 9 3;block 7 1 level;", 0);
    }

    private static void doubles() {
        bad("board 5 5;^board 5 5;", 3);
        bad("walls 5;^walls 5;", 3);
        bad("pawn a 1 1 north;^board 5 5;", 3);
        bad("block 0 0 level;^board 5 5;", 3);
        bad("board 5 5;block 0 0 level;^board 9 9;", 3);
    }

    private static void names() {
        bad("pawn a 1 1 north;pawn ^a 2 2 north;", 4);
        bad("pawn a 1 1 north;ban ^b back;", 4);
        bad("ban ^a back;", 4);
        bad("pawn a 1 1 north;pawn b 1 ^1 south;", 4);
        bad("pawn a 1 4 ^north;", 4);
        bad("pawn a 4 1 ^east;", 4);
        bad("pawn a 1 0 ^south;", 4);
        bad("pawn a 0 1 ^west;", 4);
        bad("board 7 6;pawn a 6 5 south;pawn b 5 5 ^north;", 4);
        good("board 7 6;pawn a 6 5 south;pawn b 5 5 south;pawn ab 0 0 north;pawn ba 6 0 west;", 4);
    }

    private static void walls() {
        bad("block 1 1 level;block 1 1 upright^;", 5);
        bad("block 1 1 level;block 2 1 level^;", 5);
        bad("block 1 1 level;block 0 1 level ^;", 5);
        bad("block 1 1 upright;block 1 2 upright^;", 5);
        bad("block 1 1 upright;block 1 0 upright^;", 5);
        good("block 1 1 upright;block 1 2 level;block 1 0 level;block 0 1 upright;block 2 1 upright;", 0);
        // a corner of 2 by 2 cells is shut up; without a pawn in it that may be
        String corner = "block 0 1 level;block 1 0 upright;";
        good(corner, 0);
        bad("pawn a 0 0 north;block 0 1 level;block 1 0 upright^;", 5);
        bad("pawn a 0 0 east;block 0 1 level;block 1 0 upright^;", 5);
        good("pawn a 1 1 south;pawn b 0 1 south;" + corner, 2);
        bad(corner + "pawn a 0 0 north^;", 5);
        bad(corner + "pawn a 0 0 north walls 3^;", 5);
        good(corner + "pawn a 0 1 south walls 3;", 1);
        good(corner + "pawn a 3 3 west;", 1);
        good(corner + "pawn a 3 3 south;", 1);
    }

    private static void tooMany() {
        String pawns = "pawn a 0 0 north;pawn b 1 0 north;pawn c 2 0 north;pawn d 3 0 north;";
        good(pawns, 4);
        bad(pawns + "^pawn e 4 0 north;", 6);
        bad(pawns + "^pawn", 6);
        StringBuilder bans = new StringBuilder("pawn a 0 0 north;pawn b 1 0 north;");
        for (int i = 0; i < 12; i++) {
            bans.append(i % 2 == 0 ? "ban a back;" : "ban b again;");
        }
        Check.due("12 bans", good(bans.toString(), 2).setting(6), 12);
        bad(bans + "^ban a back;", 6);
        Check.due("40 blocks", good(blocks(40), 0).setting(3), 40);
        bad(blocks(40) + "^block 0 0 level;", 6);
        bad(blocks(40) + "^block", 6);
        bad(blocks(40) + "^blocks", 1);
    }

    /** Walls at all places, level and upright ones by turns, as no two of one way may be side by side. */
    private static String blocks(int number) {
        StringBuilder text = new StringBuilder("board 9 9;");
        int made = 0;
        for (int y = 0; y < 8 && made < number; y++) {
            for (int x = 0; x < 8 && made < number; x++) {
                boolean level = (x + y) % 2 == 0;
                text.append("block").append(x).append(' ').append(y).append(level ? "level;" : "upright;");
                made++;
            }
        }
        return text.toString();
    }

    private static void afterAnError() {
        PawnRace race = Check.read("board 4 4;pawn a 0 0 north;pawn b 1 0 north;");
        race.step(0);
        race.report();
        Check.fill(race, "pawn a 1 1 north;;");
        Check.illegalArgument("readText", () -> race.readText());
        Check.due("errorCode", race.errorCode(), 1);
        Check.due("errorPosition", race.errorPosition(), 17);
        Check.due("turns", race.setting(4), 1);
        Check.due("width", race.setting(0), 4);
        Check.due("pawn a", race.pawn(0, 1), 1);
        Check.fill(race, "step");
        Check.illegalArgument("runScript", () -> race.runScript());
        Check.due("errorPosition", race.errorPosition(), 4);
        Check.due("undo", race.undo(), 0);
        Check.due("errorCode", race.errorCode(), 1);
        Check.due("readText", race.readText(), 0);
        Check.due("errorCode", race.errorCode(), 0);
        Check.due("errorPosition", race.errorPosition(), PawnRace.NONE);
        Check.due("turns", race.setting(4), 0);
        Check.due("width", race.setting(0), 5);
        Check.due("the report stays", race.reportByte(0), '.');
        Check.due("the report stays", race.reportByte(15), '.');
        Check.due("the report stays", race.reportByte(10), '0');
        Check.due("undo is forgotten", race.undo(), PawnRace.NONE);
    }

    static void script(String script, String outcome, int code, int position) {
        PawnRace race = Check.read("pawn a 0 0 north;pawn b 1 0 north;");
        Check.fill(race, script);
        Check.due("runScript of " + script, Check.outcome(race::runScript), outcome);
        Check.due("errorCode of " + script, race.errorCode(), code);
        Check.due("errorPosition of " + script, race.errorPosition(), position);
        Check.illegalArgument("truncate behind " + script, () -> race.truncate(1));
    }

    static void goodScript(String script, int done) {
        script(script, Integer.toString(done), 0, PawnRace.NONE);
    }

    static void badScript(String script, int code) {
        script(script.replace("^", ""), "throws IllegalArgumentException", code, script.indexOf('^'));
    }

    private static void goodScripts() {
        goodScript("", 0);
        goodScript(" \n", 0);
        goodScript("repeat 20();", 0);
        goodScript("repeat 20(repeat 20(););", 0);
        goodScript("step north;wall 0 0 level;", 2);
        goodScript("pass;step north;", 0);
        goodScript("step west;step north;", 0);
        goodScript("wall 99 99 upright;", 0);
        goodScript("wall 3 4 upright;", 0);
        goodScript("play 2 1;step north;", 0);
        goodScript("play 0 0;step north;", 0);
        goodScript("play 0 99;play 0 1;play 1 1;step north;", 3);
        goodScript("repeat 2(step north;step north;);step east;step east;", 6);
        // b is in the way of a and then a in that of b, and both jump, until b is at the east side
        goodScript("repeat 3(step north;repeat 2(step east;););", 7);
        goodScript("step north;step north;repeat 5(repeat 5(play 0 1;););play 0 2;", 28);
        goodScript("repeat 20(repeat 20(play 0 1;););", 40);
        goodScript("repeat 20(play 0 1;);repeat 19(play 0 1;);play 0 1;play 0 1;step north;", 40);
        StringBuilder thirty = new StringBuilder();
        for (int i = 0; i < 30; i++) {
            thirty.append("play 0 1;");
        }
        goodScript(thirty.toString(), 30);
        badScript(thirty + "^pass;", 6);
        badScript(thirty + "^repeat 1 (", 6);
        badScript(thirty + "^north", 1);
    }

    private static void scriptErrors() {
        badScript("^north;", 1);
        badScript("^);", 1);
        badScript("^;", 1);
        badScript("step ^up;", 1);
        badScript("step ^1;", 1);
        badScript("step north^", 1);
        badScript("step north ^step", 1);
        badScript("step ^northstep;", 1);
        badScript("wall 0 ^level;", 1);
        badScript("wall 0 0 ^north;", 1);
        badScript("wall ^100 0 level;", 2);
        badScript("wall 0 ^999 level;", 2);
        badScript("wall ^0000 0 level;", 1);
        badScript("play ^100 1;", 2);
        badScript("play 0 ^100;", 2);
        badScript("play 0^;", 1);
        badScript("pass ^1;", 1);
        badScript("repeat ^0 (pass;);", 2);
        badScript("repeat ^21 (pass;);", 2);
        badScript("repeat 2 ^pass;", 1);
        badScript("repeat 2 (pass^);", 1);
        badScript("repeat 2 (pass;)^", 1);
        badScript("repeat 2 (pass;) ^pass;", 1);
        badScript("repeat 2 (pass;^", 1);
        badScript("repeat 2 (pass;);^)", 1);
        badScript("repeat 2 (repeat 2 (^repeat 2 (pass;););", 3);
        badScript("repeat 2 (repeat 2 (););repeat 2(repeat 2 (^repeat", 3);
        StringBuilder many = new StringBuilder("repeat 1 (repeat 1 (");
        for (int i = 0; i < 28; i++) {
            many.append("pass;");
        }
        badScript(many + "^repeat 1 (", 3);
        badScript(many + "^pass;", 6);
        badScript(many + ");^repeat 1 (", 6);
        goodScript(many + "););", 0);
    }
}
