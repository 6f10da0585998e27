import java.nio.file.Files;
import java.nio.file.Path;
import java.util.ArrayList;
import java.util.List;

/**
 * The document, sentence by sentence: for each one the runs of calls (told as Script says) that would
 * end otherwise if it did not hold, at what it bounds and just beyond.
 */
public final class EdgesTest {
    private final Due d = new Due("EdgesTest");
    private final List<String> quoted = new ArrayList<>();

    private void at(String sentence, String... scripts) {
        quoted.add(sentence);
        for (String script : scripts) {
            new Script(script).run(d, sentence);
        }
    }

    private void anObject() {
        at("An object is used for at most 512 calls after it has been made; what later calls answer is free.",
                "turn(5)*511 status(4)=5",
                "feed(32)*250=250 wipe()=250 feed(32)*250=250 wipe()=250 feed(32)*8=8 status(7)=8 feed(65)=9",
                "deal(8)=8 sides(3)!-5 takes(0)*100=0 image()*200=1 back()*200=1 status(1)=8",
                "status(12)*500=0 sides(4)=-2 status(12)=1");
        at("public static final int NONE = -1;", "thing(1,1,0) own(0,NONE)=-1 own(0,-1)=-1 status(2)=1");
    }

    // ---- 1. THE ESTATE

    private void sidesAndThings() {
        at("SIDES are 0 to n less 1 (n 2 or 3; 2 at first).",
                "status(0)=2 bent(0|1,1)=0 bent(2|3|-1|low|high,1)!-2",
                "sides(3)=2 status(0)=3 bent(0..2,1)=0 bent(3|4|-1|low|high,1)!-2",
                "sides(2)=2 sides(3)=2 sides(3)=3 sides(2)=3 sides(1|4|0|-1|-2|-3|low|high)!-2 status(0)=2");
        at("THINGS have numbers, 0 on, 8 at most:",
                "status(1)=0 thing(1,1,0)=0 thing(1,1,0)=1 thing(1,1,0)*6=7 status(1)=8 thing(1,1,0)!-6 status(1)=8",
                "thing(7,1,0)=0 thing(8,2,0)=1 thingOf(0..1,1)=7,8 thingOf(2|3|8|-1|low|high,1)!-2",
                "thing(1,1,0)*8=7 thingOf(7,1)=1 thingOf(8|9,1)!-2");
        at("a WORTH to each SIDE (0 to 99),",
                "thing(0,99,0)=0 thing(99,0,0)=1 thingOf(0,1..2)=0,99 thingOf(1,1..2)=99,0",
                "thing(-1|100|low|high,5,5)!-2 thing(5,-1|100|low|high,5)!-2 status(1)=0",
                "sides(3) thing(5,5,0)=0 thing(5,5,99)=1 thing(5,5,-1|100|low|high)!-2 thingOf(0..1,3)=0,99",
                "thing(5,6,0) worth(0,0,0)=5 worth(0,0,99)=0 worth(0|1,0,-1|100|low|high)!-2 thingOf(0,1..2)=99,6");
        at("an OWNER (a SIDE, or NONE: it is LEFT; at first).",
                "thing(1,1,0)*2=1 thingOf(0..1,0)=-1 status(2)=3 own(1,1)=-1 thingOf(0..1,0)=-1,1 status(2)=1"
                        + " own(1,0)=1 thingOf(1,0)=0 status(2)=1 own(1,NONE)=0 thingOf(1,0)=-1 status(2)=3",
                "thing(1,1,0) own(0,2|3|-2|low|high)!-2 thingOf(0,0)=-1",
                "sides(3) thing(1,1,1) own(0,2)=-1 own(0,3|-2)!-2 thingOf(0,0)=2");
        at("TURN: how many picks there were (0 to 1,000,000,000; 0 at first).",
                "status(4)=0 thing(1,1,0)*4=3 pick(1)=0 status(4)=1 goes(2)=2 status(4)=3 {0 0: 13} books(0,1)=1"
                        + " status(4)=4 own(0,NONE)=1 status(4)=4 swap(1,3)=1 status(4)=4 again()=3 status(4)=0",
                "turn(1000000000)=0 status(4)=1000000000 turn(-1|1000000001|low|high)!-2 turn(0)=1000000000 status(4)=0");
    }

    private void laws() {
        at("LAW: 0 (at first): TURN t is SIDE t modulo n.",
                "status(3)=0 whose(0,0..7)=0,1,0,1,0,1,0,1 whose(0,999999999|1000000000)=1,0",
                "sides(3) whose(0,0..7)=0,1,2,0,1,2,0,1 whose(0,999999999|1000000000)=0,1");
        at("1: back and forth: in rounds of 2 times n: 0, 1, .., n less 1, n less 1, .., 1, 0.",
                "whose(1,0..8)=0,1,1,0,0,1,1,0,0 whose(1,999999998..1000000000)=1,0,0",
                "sides(3) whose(1,0..12)=0,1,2,2,1,0,0,1,2,2,1,0,0 whose(1,999999998..1000000000)=2,2,1");
        at("2: TURN t is the sum of the digits of t, written with n as base, modulo n.",
                "whose(2,0..16)=0,1,1,0,1,0,0,1,1,0,0,1,0,1,1,0,1",
                "whose(2,536870911..536870913)=1,1,0 whose(2,999999999|1000000000)=1,1",
                "sides(3) whose(2,0..12)=0,1,2,1,2,0,2,0,1,1,2,0,2 whose(2,26..28)=0,1,2",
                "sides(3) whose(2,387420488|387420489)=0,1 whose(2,999999999|1000000000)=1,2");
        at("3: as ORDER has it, again and again: 1 to 12 SIDES (SIDE 0 alone at first).",
                "status(5)=1 whose(3,0..5)=0 whose(3,1000000000)=0",
                "{0 0: 1 0 1} order(0,3)=3 status(5)=3 whose(3,0..6)=1,0,1,1,0,1,1 whose(3,999999999|1000000000)=1,0",
                "{0 0: 1} order(0,1)=1 status(5)=1 whose(3,0..3)=1 whose(3,1000000000)=1",
                "{0 0: 1 0 0 0 0 0 0 0 0 0 0 1 1} order(0,12)=12 status(5)=12 whose(3,10..14)=0,1,1,0,0 order(0,0|13)!-2",
                "'order 0 1 0 1 0 1 0 1 0 1 0 1'=1 status(5)=12 whose(3,11..13)=1,0,1");
    }

    private void bents() {
        at("Each SIDE has a BENT: 0 PICK (at first);",
                "sideOf(0..1,0)=0 'thing 1 1;thing 9 9'=2 takes(0..1)=0",
                "sides(3) sideOf(0..2,0)=0 bent(2,0..5)=0,0,1,2,3,4 bent(2,6|-1|low|high)!-2 sideOf(0..2,0)=0,0,5");
        String things = "'thing 1 9;thing 9 1;thing 5 5'=3 ";
        at("1 BEST, 4 LASTS, each under PICK; 2 SPOILS, 3 WAITS, 5 LOOKS, each under BEST.",
                things + "show(0,0) says(0,0)=0 says(0,1..5)!-3",
                things + "bent(0,1) show(0,0) says(0,0..1)=1 says(0,2..5)!-3",
                things + "bent(0,2) show(0,0) says(0,0..2)=0 says(0,3..5)!-3",
                things + "bent(0,3) show(0,0) says(0,0|1|3)=2 says(0,2|4|5)!-3",
                things + "bent(0,4) show(0,0) says(0,0|4)=2 says(0,1|2|3|5)!-3",
                things + "bent(0,5) show(0,0) says(0,0|1|5)=1 says(0,2..4)!-3",
                things + "takes(0)=0 bent(0,1) takes(0)=1 bent(0,2) takes(0)=0 bent(0,3) takes(0)=2 bent(0,4) takes(0)=2"
                        + " bent(0,5) takes(0)=1");
    }

    private void tokens() {
        at("AN ESTATE is read from THE TAPE (bytes, 250 at most).",
                "feed(32)*250=250 feed(32)!-6 feed(256|-1)!-2 status(7)=250 estate()!-270 status(7)=0 feed(32)=1",
                "feed(32)*245 'law 1'=1 status(3)=1",
                "feed(32)*250 estate()=-270 'law 1'=1 status(3)=1",
                "feed(0)=1 feed(255)=2 feed(256|-1|low|high)!-2 status(7)=2 estate()!-20");
        at("TOKENS, each as long as can be: WORDS (a .. z), NUMBERS (digits), the SIGN ;"
                + " - blanks (32) may stand anywhere between.",
                "'sides3;law2;order0 1 2'=3 status(0)=3 status(3)=2 status(5)=3",
                "'   law   1   ;   turn   5   '=2 status(3)=1 status(4)=5", "'law 1 ;law 2'=2 status(3)=2",
                "'thing 12 3'=1 thingOf(0,1..2)=12,3", "'thing 0 9'=1 thingOf(0,2)=9", "'turn 10'=1 status(4)=10",
                "'law ^12'!", "'thing ^123'!", "'^lawlaw 1'!", "'^lawz1'!", "'^az'!", "'^l aw 1'!", "'turn 1 ^2'!",
                "'turn 1^a'!", "'law1^a;law 1'!", "'order 0 1^turn 2'!", "'law^;1'!");
        int[] strange = {0, 9, 10, 13, 31, 33, 47, 58, 60, 64, 65, 90, 91, 96, 123, 127, 128, 160, 255};
        for (int letter : strange) {
            at("a byte that begins none", "feed(108) feed(97) feed(119) feed(" + letter + ") feed(49) estate()!-23",
                    "feed(" + letter + ") feed(108) feed(97) feed(119) feed(49) estate()!-20",
                    "feed(108) feed(97) feed(119) feed(49) feed(" + letter + ") estate()!-24");
        }
    }

    private void words() {
        String[] words = {"sides 2", "thing 1 1", "law 1", "order 1", "bent 1 1", "turn 1", "owns 1 0"};
        for (String told : words) {
            String word = told.substring(0, told.indexOf(' '));
            String rest = told.substring(word.length());
            String things = word.equals("owns") ? "thing(1,1,0) '" : "'";
            at("TOKENS, each as long as can be:", things + told + "'=1", things + "^" + word + "a" + rest + "'!",
                    things + "^a" + told + "'!", things + "^" + word.substring(1) + rest + "'!",
                    things + "^" + word.substring(0, word.length() - 1) + rest + "'!", things + "^" + word + told + "'!",
                    things + "^" + word.charAt(0) + " " + told.substring(1) + "'!");
            for (int i = 0; i < word.length(); i++) {
                char other = word.charAt(i) == 'x' ? 'y' : 'x';
                at("TOKENS, each as long as can be:",
                        things + "^" + word.substring(0, i) + other + word.substring(i + 1) + rest + "'!",
                        things + "^" + word.substring(0, i) + Character.toUpperCase(word.charAt(i)) + word.substring(i + 1) + rest + "'!");
            }
        }
    }

    private void statements() {
        at("STATEMENTS, one or more, with ; between:",
                "estate()!-20", "'   ^'!", "'^;'!", "'^;law 1'!", "'law 1;^'!", "'law 1;  ^'!", "'law 1;^;law 2'!",
                "'law 1 ^law 2'!", "'law 1;law 2'=2 status(3)=2", "'law 2;law 1;turn 3;turn 2'=4 status(3)=1 status(4)=2",
                "'" + "law 1;".repeat(40) + "law 3'=41 status(3)=3", "'^1'!", "'^lawn 1'!", "'^la 1'!", "'^Law 1'!");
        at("sides N (only if there are no THINGS; ORDER is SIDE 0 alone then, BENTS are PICK);",
                "'sides 3'=1 status(0)=3", "sides(3) 'sides 2'=1 status(0)=2 'sides 2'=1", "'sides ^1'!", "'sides ^4'!",
                "'sides ^0'!", "'sides^'!", "'sides ^a'!", "'sides^;law 1'!", "'sides 3 ^3'!", "'sides 02'=1",
                "thing(1,1,0) '^sides 3'!", "thing(1,1,0) '^sides 2'!", "'thing 1 1;^sides 2'!", "'thing 1 1;^sides'!",
                "bent(0|1,3) {0 0: 1 1} order(0,2) law(3) turn(8) 'sides 2'=1 sideOf(0..1,0)=0 status(5)=1 whose(3,0..2)=0"
                        + " status(3)=3 status(4)=8",
                "'bent 0 3;bent 1 4;order 1 1;sides 3'=4 sideOf(0..2,0)=0 status(5)=1 whose(3,0..1)=0",
                "'sides 3;bent 2 1;order 2;thing 1 2 3'=4 sideOf(0..2,0)=0,0,1 whose(3,0)=2 thingOf(0,3)=3",
                "sides(3) bent(2,5) 'sides 2;sides 3'=2 sideOf(2,0)=0");
        at("thing W W (three W of three SIDES);",
                "'thing 0 99'=1 thingOf(0,0..2)=-1,0,99", "'thing ^100 1'!", "'thing 1 ^100'!", "'thing^'!", "'thing 1^'!",
                "'thing 1 2 ^3'!", "'thing^;law 1'!", "'thing 1^;law 1'!", "'thing ^a'!",
                "sides(3) 'thing 1 2 3'=1 thingOf(0,0..3)=-1,1,2,3", "sides(3) 'thing 0 0 99'=1 thingOf(0,3)=99",
                "sides(3) 'thing 1 2^'!", "sides(3) 'thing 1 2^;law 1'!", "sides(3) 'thing 1 2 ^100'!",
                "sides(3) 'thing 1 2 3 ^4'!", "thing(1,1,0) 'thing 5 6;thing 7 8'=2 status(1)=3 thingOf(1..2,1)=5,7");
        at("law N;", "'law 0'=1", "'law 3'=1 status(3)=3", "law(2) 'law 0'=1 status(3)=0", "'law ^4'!", "'law^'!", "'law ^x'!");
        at("order S S .. (1 to 12 SIDES);",
                "'order 1'=1 status(5)=1 whose(3,0)=1", "'order 1 0'=1 status(5)=2 whose(3,0..2)=1,0,1", "'order^'!",
                "'order^;law 1'!", "'order ^2'!", "'order 0 ^2'!", "'order 0 1 ^x'!", "sides(3) 'order 2 2'=1 whose(3,1)=2",
                "sides(3) 'order ^3'!", "'order 0 0 0 0 0 0 0 0 0 0 0 1'=1 status(5)=12 whose(3,11)=1",
                "'order 0 0 0 0 0 0 0 0 0 0 0 1 ^1'!", "'order 0 0 0 0 0 0 0 0 0 0 0 1;law 1'=2 status(5)=12",
                "{0 0: 1 1 1} order(0,3) 'order 0 1'=1 status(5)=2 whose(3,0..3)=0,1,0,1");
        at("bent S K;", "'bent 1 5'=1 sideOf(0..1,0)=0,5", "'bent 0 0'=1", "'bent ^2 0'!", "'bent 0 ^6'!", "'bent^'!",
                "'bent 0^'!", "'bent 0 1 ^2'!", "sides(3) 'bent 2 1'=1 sideOf(2,0)=1", "sides(3) 'bent ^3 1'!");
        at("turn N;", "turn(5) 'turn 0'=1 status(4)=0", "'turn 9999'=1 status(4)=9999", "'turn ^10000'!", "'turn ^00000'!",
                "'turn 0007'=1 status(4)=7", "'turn^'!");
        at("owns S T (a THING there is by then).",
                "'thing 1 1;owns 1 0'=2 thingOf(0,0)=1 status(2)=0", "'owns 0 ^0'!", "'owns 0 ^0;thing 1 1'!",
                "'thing 1 1;owns 0 ^1'!", "'thing 1 1;owns 0 ^1;thing 1 1'!", "thing(1,1,0) 'owns 1 0'=1 thingOf(0,0)=1",
                "thing(1,1,0) 'owns ^2 0'!", "'owns^'!", "'thing 1 1;owns 1^'!", "'thing 1 1;owns 1 0 ^0'!",
                "sides(3) thing(1,1,1) 'owns 2 0'=1 thingOf(0,0)=2", "thing(1,1,0) own(0,0) 'owns 1 0'=1 thingOf(0,0)=1",
                "thing(1,1,0)*8 'owns 1 7'=1 thingOf(7,0)=1", "thing(1,1,0)*8 'owns 1 ^8'!");
        at("All comes to what there is, or nothing.",
                "'thing 1 1;law 2;turn 7;bent 0 1;owns 0 0;order 1 1;law ^4'! status(1)=0 status(3..5)=0,0,1 status(7)=0",
                "bent(1,2) law(1) 'sides 3;sides ^4'! sideOf(1,0)=2 status(0)=2",
                "thing(5,6,0) own(0,1) turn(3) law(1) seed(9)=1 'thing 7 8;turn 4'=2 status(0..4)=2,2,2,1,4"
                        + " thingOf(0..1,0)=1,-1 status(8)=9");
    }

    private void faults() {
        String eight = "'" + "thing 1 1;".repeat(7) + "thing 1 1'=8 ";
        at("The FAULT: the place of the first byte of the first TOKEN that can't stand there",
                "'law ^9;law 9'!", "'law ^9 ?'!", "'law 1^?9'!", "'law 1; ^7 law'!", "'    ^lawn'!", "'law   ^turn'!",
                "'law ^4'! status(12)=1 status(7)=0 'law ^4'! status(12)=2");
        at("(also a NUMBER that may not be, or has more than 4 digits;",
                "'law ^4'!", "'law 0003'=1 status(3)=3", "'law ^00003'!", "'law ^4294967297'!", "'thing ^00001 1'!",
                "'thing 0001 ^00001'!", "'law ^99999999999999999999'!", "'sides 0003'=1", "'sides ^00003'!",
                "'turn ^10000;law 1'!", "'order 0001 ^00001'!", "'bent ^00001 1'!", "'bent 1 ^00001'!",
                "thing(1,1,0) 'owns ^00001 0'!", "thing(1,1,0) 'owns 1 ^00000'!");
        at("sides, if there are THINGS: its word;",
                "thing(1,1,0) '^sides 3'!", "thing(1,1,0) '^sides 9'!", "thing(1,1,0) '^sides'!",
                "thing(1,1,0) 'law 1; ^sides 2'!",
                "thing(1,1,0) own(0,0) '^sides 2'!");
        at("what there is no room for: its word;",
                eight + "'^thing 1 1'!", eight + "'^thing 1'!", eight + "'^thing 100 x'!", eight + "'law 1;^thing'!",
                "'" + "thing 1 1;".repeat(8) + "^thing 1 1'!", "thing(1,1,0)*7 'thing 1 1;^thing 1 1'!",
                "thing(1,1,0)*7 'thing 1 1'=1 status(1)=8", "sides(3) thing(1,1,1)*8 '^thing 1 1 1'!");
        at("a thirteenth SIDE of order;", "'order 1 1 1 1 1 1 1 1 1 1 1 1 ^1'!", "'order 1 1 1 1 1 1 1 1 1 1 1 1 ^9'!",
                "'order 1 1 1 1 1 1 1 1 1 1 1 1 ^1 1;law 1'!", "'order 1 1 1 1 1 1 1 1 1 1 1 1 ^x'!",
                "'order 1 1 1 1 1 1 1 1 1 1 1 1'=1 status(5)=12");
        at("a byte that begins none);", "'^?'!", "'law^?1'!", "'law ^?'!", "'law 1^?'!", "'law 1;^?'!", "'order 1^?'!",
                "'law ^-1'!", "'thing 1^,1'!");
        at("THE TAPE's size, if it ends too early.",
                "'^'!", "' ^'!", "'law^'!", "'law ^'!", "'law 1;^'!", "'law 1; ^'!", "'order^'!", "'thing 1   ^'!", "'bent 1^'!",
                "'owns^'!", "'turn^'!", "'sides^'!", "feed(32)*250 estate()!-270");
    }

    // ---- 2. PICKS

    private void picks() {
        String four = "'thing 1 1;thing 1 1;thing 1 1;thing 1 1'=4 ";
        at("WHOSE: the SIDE by LAW at TURN.",
                four + "law(1) turn(1) pick(0)=1 pick(3)=1 pick(1)=0 status(4)=4",
                four + "law(3) {0 0: 1 1 0} order(0,3) turn(1) goes(3)=3 thingOf(0..2,0)=1,0,1",
                four + "law(2) turn(1000000000) run(2,0)=0 gets(2,1)=2 takes(0..1)=0");
        at("What the SIDE takes of what is LEFT: PICK: the first THING (by numbers).",
                "'thing 1 9;thing 9 1;thing 5 5'=3 takes(0..1)=0 own(0,1) takes(0..1)=1 own(1,0) takes(0..1)=2 own(2,0)"
                        + " takes(0|1)!-5");
        at("LASTS: the last.",
                "'thing 9 9;thing 1 1;thing 5 5;bent 0 4'=4 takes(0)=2 own(2,1) takes(0)=1 own(1,0) takes(0)=0");
        at("BEST: that of the greatest WORTH to it, of several the first.",
                "'thing 3 9;thing 7 1;thing 7 2;bent 0 1;bent 1 1'=5 takes(0..1)=1,0 own(1,0) takes(0)=2 own(0,0) takes(1)=2",
                "'thing 0 0;thing 0 0;bent 0 1;bent 1 1'=4 takes(0..1)=0",
                "'thing 98 0;thing 99 0;thing 99 0;bent 0 1'=4 takes(0)=1",
                "sides(3) 'thing 9 8 1;thing 8 9 2;thing 7 7 2;bent 2 1'=4 takes(2)=1");
        at("SPOILS: that of the greatest WORTH to the RIVAL (the next other SIDE whose turn it is behind this TURN,"
                + " within 24; none: as BEST),",
                "'thing 9 1;thing 1 9;thing 5 5;bent 0 2;bent 1 2'=5 takes(0..1)=1,0",
                "'sides 3;thing 0 1 9;thing 0 9 1;bent 0 2'=4 takes(0)=1 'law 3;order 0 2 1'=2 takes(0)=0",
                "'thing 3 9;thing 5 0;thing 5 8;law 3;bent 0 2;bent 1 2'=6 takes(0)=1 takes(1)=2",
                "'thing 3 9;thing 5 0;law 3;bent 0 2;order 1 0 0 0 0 0 0 0 0 0 0 0'=5 takes(0)=0",
                "'thing 3 9;thing 5 0;law 3;bent 0 2;order 1'=5 takes(0)=0 'order 0'=1 takes(0)=1");
        at("of several that of the greatest WORTH to itself, of several the first.",
                "'thing 3 7;thing 5 7;thing 9 6;bent 0 2'=4 takes(0)=1", "'thing 1 2;thing 5 7;thing 5 7;bent 0 2'=4 takes(0)=1",
                "'thing 0 99;thing 99 98;thing 1 99;bent 0 2'=4 takes(0)=2", "'thing 0 0;thing 0 0;bent 0 2'=3 takes(0)=0",
                "'thing 99 0;thing 0 1;bent 0 2'=3 takes(0)=1", "'thing 98 1;thing 99 0;bent 0 2'=3 takes(0)=0");
        at("WAITS: its BEST of all LEFT but that of the least WORTH to the RIVAL (of several the last one;"
                + " no RIVAL: as BEST; one THING LEFT: that).",
                "'thing 9 1;thing 2 5;thing 7 3;bent 0 3'=4 takes(0)=2",
                "'thing 9 1;thing 8 1;thing 7 3;bent 0 3'=4 takes(0)=0", "'thing 8 1;thing 9 1;thing 7 3;bent 0 3'=4 takes(0)=0",
                "'thing 8 0;thing 9 0;bent 0 3'=3 takes(0)=0", "'thing 9 0;thing 8 0;bent 0 3'=3 takes(0)=0",
                "'thing 5 3;thing 5 4;thing 0 0;bent 0 3'=4 takes(0)=0", "'thing 9 0;thing 3 5;bent 0 3'=3 takes(0)=1",
                "'thing 9 1;thing 2 5;law 3;bent 0 3'=4 takes(0)=0", "'thing 9 1;bent 0 3'=2 takes(0)=0",
                "'thing 2 5;thing 9 1;owns 1 0;bent 0 3'=4 takes(0)=1",
                "'thing 9 1;thing 3 5;law 3;bent 0 3;order 1'=5 takes(0)=1",
                "'sides 3;thing 9 1 5;thing 8 5 1;thing 0 7 7;bent 0 3'=5 takes(0)=1 'law 3;order 0 2 1'=2 takes(0)=0");
    }

    private void looks() {
        at("LOOKS: that by which it has most WORTH (to itself) in the end,",
                "'thing 10 0;thing 9 9;thing 0 8;bent 0 5;bent 1 1'=5 takes(0)=1 goes(1)=1 goes(8)=2 sideOf(0,1)=19",
                "'thing 10 0;thing 9 9;bent 0 5;bent 1 1'=4 takes(0)=0", "'thing 0 9;bent 0 5'=2 takes(0)=0");
        at("if it goes on choosing so,",
                "'thing 4 7;thing 9 3;thing 1 6;thing 2 4;thing 1 5;thing 7 6;bent 0 5;bent 1 1'=8 takes(0)=0 gets(0,0)=20",
                "'thing 5 9;thing 8 1;thing 3 8;thing 6 8;thing 4 5;thing 1 4;bent 0 5;bent 1 1'=8 takes(0)=0 gets(0,0)=19",
                "'thing 0 5;thing 4 6;thing 4 7;thing 1 2;thing 1 7;thing 9 0;bent 0 5;bent 1 1'=8 takes(0)=2 gets(0,0)=17",
                "'thing 4 7;thing 9 3;thing 1 6;thing 2 4;thing 1 5;thing 7 6;bent 0 5;bent 1 1'=8 show(0,0) bent(0,1)=5"
                        + " says(0,5)=0 takes(0)=1");
        at("and all others by their BENTS;",
                "'thing 3 1;thing 1 4;thing 1 6;thing 7 5;thing 8 8;bent 0 5'=6 takes(0)=0 gets(0,0)=18",
                "'thing 3 2;thing 3 0;thing 8 1;thing 9 0;thing 5 6;bent 0 5;bent 1 1'=7 takes(0)=4 gets(0,0)=22",
                "'thing 5 9;thing 7 5;thing 9 6;thing 5 2;thing 1 3;bent 0 5;bent 1 2'=7 takes(0)=2 gets(0,0)=15",
                "'thing 7 3;thing 2 7;thing 5 8;thing 2 6;thing 1 9;bent 0 5;bent 1 3'=7 takes(0)=2 gets(0,0)=13",
                "'thing 9 8;thing 6 4;thing 7 0;thing 3 4;thing 9 8;bent 0 5;bent 1 4'=7 takes(0)=4 gets(0,0)=25",
                "'sides 3;thing 8 5 0;thing 7 8 0;thing 8 1 3;thing 3 1 2;thing 4 8 8;thing 1 2 8;law 1;bent 0 5;bent 1"
                        + " 1;bent 2 4'=11"
                        + " takes(0)=1 bent(1,5) takes(0)=1");
        at("another one that LOOKS is taken for BEST in this;",
                "'thing 0 2;thing 3 0;thing 9 1;thing 4 6;bent 0 5;bent 1 5'=6 takes(0)=3 gets(0,0)=7 bent(1,1) takes(0)=3"
                        + " gets(0,0)=13 bent(1,0) takes(0)=2",
                "'thing 1 1;thing 8 2;thing 3 8;thing 0 6;bent 0 5;bent 1 5'=6 takes(0)=2",
                "'sides 3;thing 0 8 7;thing 8 0 1;thing 6 1 7;thing 5 9 6;thing 9 3 7;thing 3 6 5;law 1;bent 0 5;bent 1"
                        + " 5;bent 2 1'=11"
                        + " takes(0)=1 bent(1,4) takes(0)=4");
        at("of several the first.",
                "'thing 4 4;thing 4 4;bent 0 5'=3 takes(0)=0", "'thing 1 9;thing 9 1;thing 5 5;bent 0 5'=4 takes(0)=1",
                "'thing 0 0;thing 0 0;thing 0 0;bent 0 5;owns 1 0'=5 takes(0)=1");
    }

    private void runsOfPicks() {
        at("A RUN: picks from TURN on until nothing is LEFT; then each SIDE HAS the WORTHS to it of what it owns"
                + " (what it owned already, too).",
                "'thing 4 1;thing 3 2;thing 2 3;thing 1 4;owns 1 3;turn 1'=6 run(0,0..2)=0,1,2 run(0,3)!-5 gets(0,0..1)=3,8"
                        + " unequal(0)=5 gets(3,0..1)=9,4 unequal(3)=5 status(4)=1 status(2)=7",
                "'thing 1 2;thing 3 4'=2 turn(1000000000) run(0,0..1)=0,1 gets(0,0..1)=1,4 unequal(0)=3 gets(1,0..1)=1,4",
                "'thing 1 2;thing 3 4'=2 turn(999999999) gets(0,0..1)=3,2 gets(1,0..1)=4,0 gets(2,0..1)=0,6",
                "'thing 5 6;owns 1 0'=2 gets(0..3,0)=0 gets(0..3,1)=6 unequal(0..3)=6 run(0..3,0)!-5",
                "gets(0..3,0..1)=0 unequal(0..3)=0 run(0..3,0)!-5", "thing(1,2,0)*8=7 run(0,7)=7 run(0,8)!-5 gets(0,0..1)=4,8",
                "'thing 7 1;bent 1 4'=2 thing(2,2,0)*7=7 gets(0,0..1)=13,8 run(0,0..7)=0,7,1,6,2,5,3,4");
        at("UNEQUAL: the greatest of what they HAVE less the least.",
                "'sides 3;thing 9 9 9;thing 4 4 4;thing 1 1 1'=4 unequal(0)=8 unequal(3)=14",
                "'sides 3;thing 5 5 5;thing 5 5 5;thing 5 5 5'=4 unequal(0)=0 status(6)=0",
                "'sides 3;thing 1 1 1;thing 9 9 9;thing 4 4 4;owns 2 1;owns 1 2;owns 0 0'=7 status(6)=8",
                "'sides 3;thing 9 9 9;owns 2 0'=3 status(6)=9",
                "'sides 3;thing 9 9 9;thing 9 9 9;owns 2 0;owns 0 1'=5 status(6)=9",
                "'sides 3;thing 1 2 3;thing 1 2 3;owns 1 0;owns 2 1'=5 status(6)=3", "status(6)=0");
    }

    // ---- 3. WHAT COMES OF IT

    private void games() {
        at("==== 3. WHAT COMES OF IT (in thought; nothing is changed)",
                "'thing 3 4;thing 5 1;thing 2 2;law 1;bent 0 5;bent 1 3;turn 2'=7 {0 0: 0 10 21} game(0,0) opening(1)"
                        + " fairest(NONE)"
                        + " fairest(1) best() sham(0,0)=1 unequal(2) gets(3,1) run(0,1) takes(1) rival(0) judge(0,3)"
                        + " stolen(0,3)=-1 fits(0,0,1) trades(0) runs(1,9) powers(2,9,1) whose(2,5) status(0..6)=2,3,7,1,2,1,0"
                        + " thingOf(0..2,0)=-1 sideOf(0..1,0)=5,3 thingOf(0..2,1)=3,5,2 thingOf(0..2,2)=4,1,2"
                        + " element(0,0..2)=0,10,21 status(7..9)=0,1,1 status(12..16)=0",
                "'thing 3 4;thing 5 1;owns 1 0'=3 {0 2: 9 9} {1 2: 1} sham(0,0)=0 sham(1,0) judge(1,1)=-1 stolen(1,1)=0"
                        + " fits(1,1,0)=63 thingOf(0,0..2)=1,3,4 thingOf(1,0..2)=-1,5,1 status(4)=0");
        at("THE GAME: all look ahead, and know that all do: at each TURN the SIDE takes that by which it HAS most in the end,",
                "'thing 7 3;thing 8 0;thing 9 1;thing 9 8'=4 opening(0)=1 game(0,0..1)=17,11 game(0,NONE)=6"
                        + " bent(0|1,5) takes(0)=3 opening(0)=1 bent(0|1,4) opening(0)=1 game(0,0..1)=17,11",
                "'thing 6 5;thing 2 7;thing 4 0;thing 7 2'=4 opening(0)=2 game(0,0..1)=11,12 game(0,NONE)=1",
                "'sides 3;thing 0 0 7;thing 3 6 4;thing 9 0 5;thing 4 2 7;thing 8 4 2'=6 opening(0)=4 game(0,0..2)=17,8,7"
                        + " game(0,NONE)=10 own(4,2) game(0,NONE)",
                "'thing 5 6;thing 3 4;owns 1 0'=3 game(0,0..1)=3,6 game(0,NONE)=3 opening(0)=1 turn(1) game(0,0..1)=0,10",
                "'thing 5 6;owns 1 0'=2 game(0..3,0)=0 game(0..3,1)=6 game(0..3,NONE)=6 opening(0..3)!-5");
        at("of several the first. FAIREST:",
                "'thing 2 3;thing 1 0;thing 5 3'=3 opening(0)=1 game(0,0..1)=6,3", "thing(4,4,0)*8=7 opening(0..3)=0",
                "'thing 0 5;thing 0 5;thing 0 5'=3 opening(0)=0",
                "'thing 5 0;thing 0 3;thing 3 1;thing 2 0'=4 opening(0)=0 game(0,0)=7");
    }

    private void fairest() {
        at("FAIREST: of all orders of SIDES for what is LEFT (as many picks as THINGS LEFT, from now on;",
                "'thing 4 4;thing 2 2;thing 1 1'=3 fairest(NONE)=1 fairest(0..2)=0,1,1 fairest(3|4|8|high)!-5 own(0,0)=-1"
                        + " fairest(0..1)=1,0 fairest(2)!-5 fairest(NONE)=3 turn(1) law(3) fairest(0..1)=1,0",
                "'thing 4 4'=1 fairest(NONE)=4 fairest(0)=0 fairest(1)!-5",
                "thing(1,1,0)*8=7 fairest(NONE)=0 fairest(7)=1 fairest(8)!-5",
                "fairest(NONE)=0 fairest(0)!-5", "'thing 7 1;owns 0 0'=2 fairest(NONE)=7 fairest(0)!-5 fairest(-2|low)!-2",
                "'sides 3;thing 4 4 4'=2 fairest(NONE)=4 fairest(0)=0",
                "'thing 9 1;thing 8 1;owns 0 0'=3 fairest(0)=1 fairest(NONE)=8");
        at("of how many picks each SIDE has no two differ by more than one)",
                "'thing 9 9;thing 1 1;thing 1 1;thing 1 1'=4 fairest(NONE)=8 fairest(0..3)=0,0,1,1",
                "'sides 3;thing 0 10 0;thing 0 0 10;thing 5 5 5;thing 5 5 5;owns 1 0;owns 2 1'=7 fairest(NONE)=10"
                        + " fairest(0..1)=0,1",
                "'sides 3;thing 1 1 1;thing 1 1 1;thing 1 1 1;thing 6 6 6'=5 fairest(NONE)=5 fairest(0..3)=0,0,1,2",
                "'thing 1 1;thing 1 1;thing 1 1;thing 1 1;thing 4 4'=5 fairest(NONE)=2 fairest(0..4)=0,0,0,1,1");
        at("that by which a RUN (by BENTS; RIVAL by this order, none behind its end) is least UNEQUAL,",
                "'thing 1 9;thing 7 3;thing 6 0;bent 0 2'=4 fairest(NONE)=2 fairest(0..2)=0,1,1",
                "'sides 3;thing 8 8 9;thing 9 4 8;thing 4 6 0;thing 3 8 6;thing 4 9 3;bent 0 2;bent 1 1;bent 2 4'=9"
                        + " fairest(NONE)=2 fairest(0..4)=0,2,2,1,1",
                "'sides 3;thing 7 4 5;thing 6 9 9;thing 0 6 0;thing 9 5 7;thing 0 5 5;bent 0 3;bent 1 1;bent 2 4'=9"
                        + " fairest(NONE)=5 fairest(0..4)=1,2,2,0,0",
                "'thing 8 10;thing 6 7;thing 6 3;thing 9 15;thing 17 19;thing 7 4;bent 0 5;bent 1 1'=8 fairest(NONE)=2"
                        + " fairest(0..5)=0,1,1,0,0,1",
                "'thing 17 16;thing 0 8;thing 0 15;thing 5 6;thing 16 12;thing 5 10;bent 0 5;bent 1 5'=8 fairest(NONE)=5"
                        + " fairest(0..5)=0,0,0,1,1,1",
                "'thing 10 3;thing 2 17;thing 8 17;thing 15 6;thing 7 6;thing 2 2;thing 6 17;bent 0 5;bent 1 2'=9 fairest(NONE)=0"
                        + " fairest(0..6)=1,0,1,0,0,0,1",
                "'thing 14 19;thing 17 2;thing 3 6;thing 10 2;thing 3 18;thing 14 2;thing 17 3;bent 0 3;bent 1 5'=9"
                        + " fairest(NONE)=1 fairest(0..6)=0,0,1,0,1,1,1",
                "'sides 3;thing 8 14 17;thing 3 11 16;thing 1 12 18;thing 19 16 7;thing 7 18 15;bent 0 5;bent 1 5;bent 2 5'=9"
                        + " fairest(NONE)=11 fairest(0..4)=0,0,2,1,1",
                "'sides 3;thing 12 4 12;thing 0 1 1;thing 15 1 11;thing 13 3 8;thing 16 18 15;bent 0 5;bent 1 2;bent 2 5'=9"
                        + " fairest(NONE)=5 fairest(0..4)=1,0,2,2,0",
                "'sides 3;thing 1 15 3;thing 4 9 16;thing 2 0 15;thing 11 13 18;thing 0 1 15;thing 4 0 0;bent 0 1;bent 1 5;bent 2 5'=10"
                        + " fairest(NONE)=1 fairest(0..5)=0,0,1,1,2,2",
                "'thing 4 1;thing 0 1;thing 4 3;bent 0 5;bent 1 5'=5 fairest(NONE)=0 fairest(0..2)=0,1,1 worth(1,0,4)=1"
                        + " fairest(NONE)=0",
                "'sides 3;thing 2 2 3;thing 4 2 1;thing 0 1 3;thing 4 3 0;bent 0 5;bent 1 5;bent 2 2'=8 fairest(NONE)=1"
                        + " fairest(0..3)=0,1,2,0"
                        + " worth(0,0,1)=2 fairest(NONE)=0 fairest(0..3)=2,2,0,1");
        at("of several the first (row of SIDES).",
                "thing(1,1,0)*8=7 fairest(NONE)=0 fairest(0..7)=0,0,0,0,1,1,1,1",
                "sides(3) thing(5,5,5)*7=6 fairest(NONE)=5 fairest(0..6)=0,0,0,1,1,2,2", "thing(0,0,0)*2=1 fairest(0..1)=0,1");
        at("BEST LAW: that of 0 to 3 by which a RUN is least UNEQUAL, of several the first.",
                "best()=0", "'thing 4 4;thing 3 3;thing 2 2;thing 1 1'=4 best()=1 law(3) best()=1 own(3,1) best()=0",
                "'thing 1 1;thing 0 0;thing 0 0;thing 0 0;thing 1 1;thing 0 0'=6 best()=2 unequal(0..3)=2,2,0,2",
                "'thing 4 4;thing 5 5;thing 9 9;order 0 0 1'=4 best()=3 unequal(0..3)=8,10,10,0",
                "'thing 3 3'=1 best()=0 turn(3) best()=0", "thing(1,1,0)*2=1 best()=0 {0 0: 0 1} order(0,2) best()=0");
    }

    private void sums() {
        at("RUNS: the most TURNS one after the other of one SIDE, of TURNS 0 to m less 1 (m 1 to 4000).",
                "runs(0..3,1)=1 runs(0,4000)=1 runs(3,4000)=4000 runs(3,3999)=3999 runs(0..3,0|4001|-1|low|high)!-2",
                "runs(1,2..4)=1,2,2 runs(2,2..3)=1,2 runs(1..2,4000)=2 turn(1) runs(1,2)=1",
                "{0 0: 1 1 0 1} order(0,4) runs(3,1..7)=1,2,2,2,2,3,3 runs(3,4000)=3",
                "sides(3) runs(0,4000)=1 runs(1,3..4)=1,2 runs(2,9..10)=1,2 runs(1,4000)=2",
                "{0 0: 0 0 0 0 0 0 0 0 0 0 0 1} order(0,12) runs(3,11..12)=11 runs(3,4000)=11");
        at("POWERS: the sum of t to the power of p (0 to 3) over all TURNS t of 0 to m less 1 (m 0 to 1000) that are SIDE 0's,"
                + " less that over SIDE 1's.",
                "powers(0..3,0,0..3)=0 powers(0,1,0..3)=1,0,0,0 powers(0,2,0..3)=0,-1,-1,-1 powers(0,3,0..3)=1,1,3,7",
                "powers(0,-1|1001|low|high,0)!-10000000000002 powers(0,0,-1|4|low|high)!-10000000000002",
                "powers(0,1000,0..3)=0,-500,-499500,-499250000 powers(3,1000,0..3)=1000,499500,332833500,249500250000",
                "powers(2,8,0..3)=0,0,0,-48 powers(2,16,3)=0 turn(1) powers(2,8,3)=-48",
                "sides(3) powers(0,3..4,1)=-1,2 powers(0,3,0)=0 powers(1,4,1)=-1 {0 0: 2} order(0,1) powers(3,1000,0..3)=0");
    }

    private void shams() {
        at("SHAM: how much more a SIDE HAS (by its true WORTHS) at the end of a RUN, if all others took told WORTHS for its own",
                "'thing 5 9;thing 5 1;bent 0 2;bent 1 1'=4 {0 2: 0 50} sham(1,0)=8 sham(0,0)=0 thingOf(0..1,2)=9,1 gets(0,1)=1",
                "'thing 9 5;thing 1 9;thing 0 0;bent 0 3;bent 1 1'=5 {0 2: 0 50 50} sham(1,0)=-4",
                "'thing 0 0;thing 0 7;thing 7 4;thing 2 8;bent 0 5;bent 1 5'=6 {0 0: 0 5 6 6} sham(0,0)=7",
                "'thing 0 5;thing 1 2;thing 5 5;thing 4 8;bent 0 1;bent 1 5'=6 {0 0: 9 6 5 7} sham(0,0)=3",
                "'thing 5 9;thing 5 1;bent 0 2;bent 1 1;owns 1 0'=5 {0 2: 0 50} sham(1,0)=0",
                "{0 0:} sham(0..1,0)=0", "'thing 5 9;thing 5 1;owns 1 0;owns 0 1'=4 {0 0: 0 99} sham(0..1,0)=0",
                "'thing 5 9;thing 5 1;bent 0 2;bent 1 1;law 3'=5 {0 2: 0 50} sham(1,0)=0 law(0)=3 sham(1,0)=8 turn(1)"
                        + " sham(1,0)=0");
        at("(it chooses by its true ones, as if they knew these).",
                "'thing 5 9;thing 7 2;thing 1 7;thing 0 2;bent 0 5;bent 1 3'=6 {0 0: 2 9 4 7} sham(0,0)=-6",
                "'thing 1 0;thing 7 5;thing 5 6;thing 8 4;bent 0 5;bent 1 3'=6 {0 0: 2 7 2 7} sham(0,0)=-3",
                "'thing 9 1;thing 1 1;bent 0 1'=3 {0 0: 1 9} sham(0,0)=0");
    }

    private void books() {
        String four = "'thing 1 1;thing 1 1;thing 1 1;thing 1 1;owns 0 3;turn 1;law 1'=7 ";
        at("A BOOK: a ROW of picks, each 10 times the SIDE and the THING, from TURN on:"
                + " WRONG: the first that is out of turn, or of a THING not LEFT by then.",
                four + "{0 2: 10 11 2 0} judge(0,0..4)=-1,-1,-1,-1,3", four + "{0 2: 10 1 2} judge(0,1..3)=-1,1,1",
                four + "{0 2: 0 11 2} judge(0,1..3)=0", four + "{0 2: 10 10 2} judge(0,1..3)=-1,1,1",
                four + "{0 2: 13} judge(0,1)=0", four + "{0 2: 14} judge(0,1)=0", four + "{0 2: 19} judge(0,1)=0",
                four + "{0 2: 20} judge(0,1)=0", four + "{0 2: 2} judge(0,1)=0", four + "{0 2: -10} judge(0,1)=0",
                four + "{0 2: 10 11 -8} judge(0,2..3)=-1,2", four + "{0 3: 4294967306} judge(0,1)=0",
                four + "{0 3: lowest highest} judge(0,1..2)=0 judge(0,0)=-1", four + "{0 0: 10 11} judge(0,2)=-1",
                "sides(3) thing(1,1,1)*3=2 {0 0: 0 11 22} judge(0,0..3)=-1 own(1,0) judge(0,3)=1 turn(1) judge(0,3)=0",
                "thing(1,1,0)*2=1 turn(1000000000) {0 0: 0 11} judge(0,2)=-1 {1 0: 0 1} judge(1,2)=1",
                "thing(1,1,0) {0 4: 7} judge(0,1)=0 {1 4: 0} judge(1,1)=-1",
                "thing(1,1,0)*8=7 {0 0: 7 16 5 14 3 12 1 10} judge(0,8)=-1");
        at("STOLEN: the first pick of the BOOK without which all the others would be right (from TURN on); NONE.",
                four + "{0 0: 10 12 11 2 0} stolen(0,4)=1 stolen(0,5)=-1", four + "{0 0: 10 0 11 2} stolen(0,4)=1",
                four + "{0 0: 2 10 11 2} stolen(0,4)=0", four + "{0 0: 2 10 11 0} stolen(0,4)=-1",
                four + "{0 0: 10 11 2} stolen(0,3)=2 stolen(0,2)=0 stolen(0,1)=0",
                four + "{0 0: 99} stolen(0,1)=0", four + "{0 0: 10 99 -1} stolen(0,3)=-1 stolen(0,2)=1",
                four + "{0 0: 10 13 11} stolen(0,3)=1", "thing(1,1,0)*7=6 {0 0: 0 11 2 13 4 15 6 17} stolen(0,8)=7 judge(0,8)=7",
                "{0 0: 0} stolen(0,1)=0", "{0 0: 0 0} stolen(0,2)=-1");
        at("BENTS (bits) that FIT a SIDE by a BOOK that isn't WRONG: those by which it would have taken just these"
                + " (others as in the BOOK; LOOKS as they are).",
                "'thing 9 3;thing 7 8;thing 7 5;thing 4 9;thing 2 6;thing 5 5;law 2;bent 0 5;bent 1 5'=9 {0 0: 0 13 11}"
                        + " fits(0,0,0..1)=63 fits(0,1,0..1)=3,63 fits(0,2,0..1)=3,10 fits(0,3,0)=3",
                "'thing 10 0;thing 9 9;thing 0 8;bent 1 4'=4 {0 0: 0 12 1} fits(0,3,0)=35 {0 0: 0 11 2} fits(0,3,0)=35"
                        + " fits(0,3,1)=47",
                "'thing 10 0;thing 9 9;thing 0 8;bent 1 1'=4 {0 0: 1 12 0} fits(0,3,0..1)=44,50 {0 0: 0 11 2} fits(0,3,0)=3"
                        + " judge(0,3)=-1",
                "'thing 1 1;thing 2 2'=2 {0 0: 0 11} fits(0,2,0..1)=1,63", "{0 0:} fits(0,0,0..1)=63 fits(0,0,2)!-2",
                "sides(3) 'thing 1 1 1'=1 {0 0: 0} fits(0,1,0..2)=63",
                "sides(3) thing(1,1,1)*8 turn(1) {0 0: 10 21 2 13 27} judge(0,5)=-1 fits(0,5,0..2)=47,47,0"
                        + " fits(0,4,2)=47 {1 0: 17 20} fits(1,2,1)=16 fits(1,2,2)=47");
    }

    private void tradesAndTruth() {
        String four = "'thing 1 9;thing 5 2;thing 3 4;thing 4 3;owns 0 0;owns 1 1;owns 0 2;owns 1 3'=8 ";
        at("TRADES: pairs of THINGS of two OWNERS, each of whom would rather have the other's (by WORTH to them): how many;",
                four + "trades(0)=4 worth(1,0,2) worth(0,1,3) trades(0)=1 own(2,NONE) trades(0)=0",
                "'thing 1 5;thing 5 1;owns 0 0;owns 1 1'=4 trades(0)=1 own(1,0) trades(0)=0 own(1,NONE) trades(0)=0"
                        + " own(0,NONE) trades(0)=0",
                "'thing 5 5;thing 5 1;owns 0 0;owns 1 1'=4 trades(0)=0 worth(0,0,4) trades(0)=1 worth(1,0,1) trades(0)=0",
                "'thing 5 1;thing 1 5;owns 0 0;owns 1 1'=4 trades(0)=0 swap(0,1) trades(0)=1", "trades(0)=0",
                "'sides 3;thing 1 9 5;thing 9 1 5;owns 2 0;owns 1 1'=5 trades(0)=0 worth(2,1,6) trades(0)=1");
        at("that by which both together gain most, of several the first (10 times the one and the other, the one below the"
                        + " other).",
                four + "trades(1)=1 worth(0,3,50) trades(1)=3 worth(0,3,6) trades(1)=1 worth(0,3,7) trades(1)=3",
                four + "worth(1,0,2) worth(0,1,3) trades(1)=23 own(2,1) own(3,0) trades(1)!-5",
                "thing(1,5,0) thing(5,1,0)*7=7 own(7,1) own(0,0) trades(1)=7 own(0,1) own(7,0) trades(1)!-5",
                "thing(5,5,0)*6=5 thing(9,1,0) thing(1,9,0) own(6,1) own(7,0) trades(1)=67 trades(0)=1", "trades(1)!-5");
        at("IN TRUTH: picks; THINGS change OWNERS.",
                "thing(1,1,0)*3=2 pick(1)=0 thingOf(0..2,0)=-1,0,-1 goes(1)=1 thingOf(0..2,0)=1,0,-1 swap(0,1)=1"
                        + " thingOf(0..2,0)=0,1,-1");
        at("BY DRAWS n THINGS: each WORTH a DRAW below 100 (SIDE by SIDE).",
                "deal(2)=2 thingOf(0,0..2)=-1,38,26 thingOf(1,0..2)=-1,13,83 status(8)=-999580867",
                "sides(3) deal(1)=1 thingOf(0,1..3)=38,26,13 status(8)=662824084 deal(1)=1 thingOf(1,1..3)=83,19,95",
                "sides(3) seed(0)=1 deal(2)=2 thingOf(0,1..3)=0,36,56 thingOf(1,1)=85");
        at("A DRAW below n: SEED (1 at first) becomes SEED times 1103515245, and 12345 (an int, wrapping);"
                + " its upper 16 bits, no sign, modulo n.",
                "status(8)=1 deal(1)=1 status(8)=-1770082073 thingOf(0,1..2)=38,26",
                "seed(-1770082073)=1 deal(1)=1 thingOf(0,1..2)=13,83",
                "seed(0)=1 deal(1)=1 status(8)=-740551042 thingOf(0,1..2)=0,36",
                "seed(high)=1 deal(1)=1 seed(0)=-1858503659 thingOf(0,1..2)=29,77", "seed(low)=1 deal(1)=1 thingOf(0,1..2)=68");
    }

    private void shelvesAndRefusals() {
        at("SHELVES 0 to 7 hold NOTHING (at first), a ROW, or a BENT (of a SIDE, as it was when it was put there).",
                "holds(0..7)=-1 holds(8|-1|low|high)=-1 status(9)=0 status(12)=0",
                "row(0|7,0,1)=1 holds(0..7)=0,-1,-1,-1,-1,-1,-1,0 row(8|-1|low|high,0,1)!-2 status(9)=2",
                "bent(1,3) show(0|7,1)=1 bent(1,5)=3 holds(0|7)=13 show(0,1)=1 holds(0|7)=15,13 show(8|-1|low|high,1)!-2",
                "thing(1,1,0) thing(2,2,0) bent(1,4) show(3,1)=1 bent(1,0)=4 says(3,4)=1 takes(1)=0 thing(3,3,0) says(3,4)=2");
        at("A ROW has a SORT (0 bytes, 1 shorts, 2 ints, 3 longs, 4 booleans) and 0 to 40 elements (0, or not so, at first);",
                "row(0,0..4,40)=1 row(0,-1|5|low|high,1)!-2 row(0,0,-1|41|low|high)!-2 holds(0)=4 element(0,0..39)=0",
                "row(0,3,40) set(0,0|39,5)=1 set(0,40|-1|low|high,5)!-2 element(0,39..40)=5,0 row(0,3,40) element(0,0|39)=0",
                "row(0,4,40) set(0,0|39,5)=1 row(0,4,1) element(0,0)=0 row(0,4,40) element(0,0..39)=0",
                "row(0..4,2,0)=1 holds(0..4)=2 element(0,0)=0 set(0,0,1)!-2",
                "{0 0: 1 2 3 4} {1 0: 5 6 7 8} row(0,0,4) element(1,0..3)=5,6,7,8 element(0,0..3)=0");
        at("what is put in keeps its lowest bits (of booleans: whether it is not 0);",
                "{0 0: 127 128 -128 -129 255 256 -1} element(0,0..6)=127,-128,-128,127,-1,0,-1",
                "{0 1: 32767 32768 -32768 -32769 65535 65536} element(0,0..5)=32767,-32768,-32768,32767,-1,0",
                "{0 2: high 2147483648 low -2147483649 4294967295 4294967296}"
                        + " element(0,0..5)=2147483647,-2147483648,-2147483648,2147483647,-1,0",
                "{0 3: highest lowest} element(0,0..1)=9223372036854775807,-9223372036854775808",
                "{0 0: highest lowest} element(0,0..1)=-1,0 {1 1: highest lowest} element(1,0..1)=-1,0",
                "{0 2: highest lowest} element(0,0..1)=-1,0");
        at("told they are numbers (1, 0).",
                "{0 4: 0 1 2 -1 256 4294967296 lowest 0} element(0,0..7)=0,1,1,1,1,1,1,0 set(0,1,0)=1 element(0,1)=0");
        at("REFUSALS (the call answers the number; nothing changes but how many there were;"
                + " the first that fits as each line has them):",
                "law(4)!-2 law(4)!-2 set(0,0,0)!-4 show(0,0) set(0,0,0)!-3 set(0,0,0)!-3 set(0,0,0)!-3 back()!-5"
                        + " status(12..16)=2,3,1,1,0",
                "thing(1,1,0)*8 thing(1,1,0)!-6 thing(1,1,0)!-6 feed(1)*250 feed(1)!-6 status(12..16)=0,0,0,0,3");
        at("-2 BAD a number that may not be, nothing of that number.",
                "law(4)!-2 own(0,0)!-2 status(12)=2", "thing(1,1,0) pick(1)!-2 worth(0,1,5)!-2 worth(2,0,5)!-2"
                        + " worth(0,0,100)!-2");
        at("-3 OTHER: a SHELF that holds another thing than is wanted.",
                "show(0,0) set(0,0,0)!-3 order(0,1)!-3 judge(0,1)!-3 stolen(0,1)!-3 fits(0,1,0)!-3 books(0,1)!-3"
                        + " sham(0,0)!-10000003 copy(0,0,0,0,0)!-3 row(1,0,1) says(1,0)!-3 copy(0,1,0,0,0)!-3"
                        + " copy(1,0,0,0,0)!-3");
        at("-4 NOTHING: a SHELF that holds NOTHING.",
                "set(0,0,0)!-4 order(0,1)!-4 judge(0,1)!-4 stolen(0,1)!-4 fits(0,1,0)!-4 books(0,1)!-4 sham(0,0)!-10000004"
                        + " copy(0,0,0,0,0)!-4 says(0,0)!-4 row(1,0,1) copy(0,1,0,0,0)!-4 copy(1,0,0,0,0)!-4",
                "row(0,0,1) show(0,NONE) set(0,0,0)!-4 says(0,0)!-4 element(0,0)=0 holds(0)=-1 status(9)=0");
        at("-5 STUCK: it can't be as things stand.", "takes(0)!-5 opening(0)!-5 run(0,0)!-5 fairest(0)!-5 trades(1)!-5"
                        + " back()!-5");
        at("-6 FULL.", "thing(1,1,0)*8 thing(1,1,0)!-6", "feed(1)*250 feed(1)!-6");
        at("(Calls that tell what may be below 0 answer -10000000 and the number;"
                + " powers() -10000000000000 and the number.)",
                "sham(2|-1|low|high,0)!-10000002 sham(0,8|-1|low|high)!-10000002 sham(0,0)!-10000004 show(0,0)"
                        + " sham(0,0)!-10000003",
                "powers(4|-1|low|high,0,0)!-10000000000002 powers(0,-1|1001,0)!-10000000000002 powers(0,0,4|-1)!-10000000000002");
    }

    // ---- The promises

    private void promises1To8() {
        at("2 SIDES, no THINGS, LAW 0; SHELVES hold NOTHING; THE TAPE is empty.",
                "status(0..9)=2,0,0,0,0,1,0,0,1,0 status(10..11)=-1 status(12..16)=0 status(17)=-1 holds(0..7)=-1 wipe()=0"
                        + " back()!-5");
        at("SHELF s holds a new ROW: 1. BAD.",
                "row(0,0,40)=1 row(7,4,0)=1 row(8|-1|low|high,0,0)!-2 row(0,5|-1|low|high,0)!-2 row(0,0,41|-1|low|high)!-2",
                "show(3,0) row(3,2,1)=1 holds(3)=2 says(3,0)!-3 {3 2: 7 8} row(3,2,2)=1 element(3,0..1)=0");
        at("Element i of the ROW in SHELF s becomes v: 1. BAD SHELF; OTHER; NOTHING; BAD i.",
                "{0 2: 1 2 3} set(0,1,9)=1 element(0,0..2)=1,9,3 set(0,3|-1|40|low|high,9)!-2 set(0,0|2,-5)=1"
                        + " element(0,0..2)=-5,9,-5",
                "set(8|-1|low|high,0,0)!-2 set(0,0|-1|40,0)!-4 show(0,0) set(0,0|-1|40,0)!-3 set(8,-1,0)!-2");
        at("n elements of the ROW in SHELF p from place i on come to places j on of that in q (as they were): n.",
                "{0 2: 1 2 3 4 5} {1 2: 9 9 9} copy(0,1,3,1,2)=2 element(1,0..2)=9,4,5 element(0,0..4)=1,2,3,4,5"
                        + " copy(0,1,0,0,3)=3"
                        + " element(1,0..2)=1,2,3",
                "{0 2: 1 2 3 4 5} copy(0,0,0,1,4)=4 element(0,0..4)=1,1,2,3,4 copy(0,0,2,0,3)=3 element(0,0..4)=2,3,4,3,4"
                        + " copy(0,0,0,0,5)=5 element(0,0..4)=2,3,4,3,4",
                "{0 4: 1 0 1} {1 4: 0 0 0} copy(0,1,0,0,3)=3 element(1,0..2)=1,0,1", "row(0|1,3,40) copy(0,1,0,0,40)=40",
                "{0 2: 1} {1 2: 2} copy(0,1,0,0,0)=0 copy(0,1,1,1,0)=0 element(1,0)=2 row(2,2,0) copy(2,2,0,0,0)=0"
                        + " copy(2,0,0,1,0)=0");
        at("BAD SHELVES; OTHER (also ROWS of two SORTS, if both hold something); NOTHING; BAD the others.",
                "{0 2: 1 2} {1 3: 1 2} copy(0,1,0,0,1)!-3 copy(1,0,9,9,9)!-3 show(2,0) copy(2,0|2|3,0,0,1)!-3"
                        + " copy(0|3,2,0,0,1)!-3",
                "{0 2: 1 2} {1 3: 1 2} copy(0|3,3,-1,0,1)!-4 copy(3,1,0,0,1)!-4 copy(8|-1,0,0,0,1)!-2 copy(0,8|-1,0,0,1)!-2"
                        + " copy(3,8,0,0,1)!-2 copy(-1,3,0,0,1)!-2",
                "show(2,0) copy(2,8,0,0,1)!-2 copy(-1,2,0,0,1)!-2 copy(8,8,0,0,0)!-2 copy(low,high,0,0,0)!-2",
                "{0 2: 1 2} {1 2: 1 2 3} copy(0,1,0,0,3)!-2 copy(1,0,0,0,3)!-2 copy(0,1,1,0,2)!-2 copy(0,1,0,2,2)!-2"
                        + " copy(0,1,2,0,1)!-2"
                        + " copy(0,1,0,3,1)!-2 copy(0,1,3,0,0)!-2 copy(0,1,0,4,0)!-2 copy(0,1,2,3,0)=0",
                "{0 2: 1 2} {1 2: 1 2 3} copy(0,1,-1|low,0,1)!-2 copy(0,1,0,-1|low,1)!-2 copy(0,1,0,0,-1|low|high)!-2"
                        + " copy(0,1,high,0,high)!-2 copy(0,1,0,high,high)!-2 copy(0,1,high,high,low)!-2 copy(0,1,1,0,high)!-2");
        at("Element i of the ROW; 0: none, no ROW (nothing is refused).",
                "{2 1: 40000 7} element(2,0..1)=-25536,7 element(2,2|40|-1|low|high)=0 element(3|8|-1|low|high,0)=0"
                        + " status(12..16)=0",
                "{2 1: 5} show(2,0) element(2,0)=0 show(2,NONE) element(2,0)=0 row(2,1,1) element(2,0)=0",
                "{0 0: 5} {1 0:} element(1,-40)=0 element(0,40)=0 {2 0: 6} element(1,40)=0 element(1,80)=0");
        at("What SHELF s holds: NONE NOTHING, no SHELF; 0 to 4 a ROW by its SORT; 10 and the number of a BENT.",
                "row(0,0,1) row(1,1,1) row(2,2,1) row(3,3,1) row(4,4,0) holds(0..7)=0,1,2,3,4,-1,-1,-1 holds(8|-1|low|high)=-1",
                "show(0,0) bent(0,1) show(1,0) bent(0,2) show(2,0) bent(0,3) show(3,0) bent(0,4) show(4,0) bent(0,5) show(5,0)"
                        + " holds(0..5)=10,11,12,13,14,15 status(12..16)=0");
        at("SHELF s holds the BENT of a SIDE, or NOTHING (side NONE): 1. BAD.",
                "show(0,1)=1 show(0,NONE)=1 holds(0)=-1 show(1,NONE)=1 row(2,0,4) show(2,0)=1 holds(2)=10"
                        + " show(2,2|-2|low|high)!-2",
                "show(8|-1|low|high,0)!-2 show(8,NONE)!-2 sides(3) show(7,2)=1 show(7,3)!-2 holds(7)=10 row(7,2,2)"
                        + " show(7,NONE)=1 holds(7)=-1");
        at("What the BENT in SHELF s, taken for one of a BENT (0 to 5), says:"
                + " what its SIDE would take now by it, if it were its turn (NONE: nothing is LEFT).",
                "bent(0,1) show(0,0) says(0,0..1)=-1 'thing 3 9;thing 8 1'=2 says(0,0..1)=1 own(0|1,0) says(0,0..1)=-1"
                        + " status(13)=0",
                "'thing 3 9;thing 8 1;bent 1 1'=3 show(0,1) says(0,0)=0 turn(1) says(0,1)=0 worth(1,1,10) says(0,1)=1",
                "'thing 9 1;thing 1 9;bent 0 2'=3 show(0,0) says(0,2)=1 law(3) says(0,2)=0");
        at("BAD SHELF, BENT; OTHER (also if it is of no such BENT nor of one under it); NOTHING;"
                + " BAD: there is no such SIDE any more. (NONE isn't refused.)",
                "says(8|-1|low|high,0)!-2 says(0,6|-1|low|high)!-2 says(0,0)!-4 row(0,0,1) says(0,0..5)!-3 says(0,6)!-2"
                        + " says(8,6)!-2",
                "sides(3) bent(2,2) show(0,2) says(0,0..2)=-1 sides(2) says(0,0..2)!-2 says(0,3..5)!-3 sides(3) says(0,0..2)=-1",
                "thing(1,1,0) show(0,0) says(0,1..5)!-3 says(0,0)=0");
    }

    private void promises9To18() {
        at("SIDES become n, ORDER SIDE 0 alone, BENTS PICK: what they were. BAD; STUCK: there are THINGS.",
                "bent(0,3) bent(1,4) {0 0: 1 1} order(0,2) law(3) turn(9) sides(3)=2 sideOf(0..2,0)=0 status(5)=1 whose(3,0..3)=0"
                        + " status(3..4)=3,9 sides(2)=3 sides(2)=2",
                "bent(0,3) sides(2)=2 sideOf(0,0)=0", "thing(1,1,0) sides(2|3)!-5 sides(1|4|-1|low|high)!-2 own(0,0)"
                        + " sides(3)!-5 again() sides(3)!-5");
        at("A THING with its WORTHS (of two SIDES the third doesn't count): its number. BAD; FULL.",
                "thing(1,99,-1)=0 thing(0,0,100)=1 thing(5,5,low)=2 thing(5,5,high)=3 thing(100|-1,1,1)!-2 thing(1,100|-1,1)!-2",
                "thing(1,2,0)*8=7 thing(1,2,0)!-6 thing(100|-1,2,0)!-2 thing(1,-1|100,0)!-2 thing(1,2,500)!-6",
                "sides(3) thing(1,2,3)*8=7 thing(1,2,3)!-6 thing(1,2,100|-1)!-2 thingOf(7,0..3)=-1,1,2,3");
        at("WORTH of a THING to a SIDE becomes v: what it was. BAD.",
                "sides(3) thing(1,2,3) thing(4,5,6) worth(2,1,99)=6 worth(2,1,0)=99 thingOf(0,1..3)=1,2,3 thingOf(1,1..3)=4,5,0",
                "thing(1,2,0) worth(2|-1|low|high,0,5)!-2 worth(0,1|-1|8|low|high,5)!-2 worth(0,0,100|-1|low|high)!-2"
                        + " worth(1,0,99)=2");
        at("The BENT of a SIDE becomes another: what it was. BAD.",
                "bent(1,5)=0 bent(1,0)=5 bent(0,3)=0 sideOf(0..1,0)=3,0 bent(2|-1|low|high,0)!-2 bent(0,6|-1|low|high)!-2");
        at("LAW becomes v: what it was. BAD.", "law(3)=0 law(2)=3 law(1)=2 law(0)=1 law(0)=0 law(4|-1|low|high)!-2 status(3)=0");
        at("ORDER becomes the SIDES told by the first n elements (1 to 12) of the ROW in SHELF s: n.",
                "{0 0: 1 0 1 7} order(0,3)=3 whose(3,0..3)=1,0,1,1 order(0,1)=1 whose(3,0..3)=1 set(0,0,0)=1 whose(3,0)=1",
                "row(0,2,40) order(0,12)=12 order(0,1)=1 status(5)=1", "{0 4: 0 7} order(0,2)=2 whose(3,0..2)=0,1,0",
                "sides(3) {0 3: 2 1 0} order(0,3)=3 whose(3,0..2)=2,1,0");
        at("BAD SHELF, n; OTHER; NOTHING; BAD: fewer elements, no SIDES.",
                "{0 3: 1 2 -1 4294967296} order(8|-1|low|high,1)!-2 order(0,0|13|-1|low|high)!-2 order(0,5)!-2"
                        + " order(0,2..4)!-2 order(0,1)=1",
                "{0 3: 1 -1} order(0,2)!-2 {0 3: 0 4294967296} order(0,2)!-2 {0 3: 0 lowest} order(0,2)!-2",
                "order(0,0|13)!-2 order(0,12)!-4 show(0,0) order(0,0|13)!-2 order(0,12)!-3 row(1,0,0) order(1,1)!-2",
                "sides(3) {0 0: 2 3} order(0,2)!-2 order(0,1)=1 sides(2) order(0,1)!-2");
        at("TURN becomes v: what it was. BAD.",
                "turn(1000000000)=0 turn(0)=1000000000 turn(5)=0 turn(1000000001|-1|low|high)!-2 status(4)=5");
        at("OWNER of a THING becomes a SIDE (NONE: it is LEFT): who it was (NONE). BAD. (NONE isn't refused.)",
                "thing(1,2,0)*2 own(1,1)=-1 own(1,0)=1 own(1,NONE)=0 own(1,NONE)=-1 own(2|-1|8|low|high,0)!-2"
                        + " own(0,2|-2|low|high)!-2"
                        + " own(0,NONE)=-1 status(4)=0 status(12)=9 status(2)=3");
        at("THE TAPE gets one byte (0 to 255) behind it: its size. BAD; FULL.",
                "feed(0)=1 feed(255)=2 feed(256|-1|low|high)!-2 status(7)=2",
                "feed(32)*249=249 feed(32)=250 feed(32)!-6 feed(256|-1)!-2 status(7)=250");
        at("THE TAPE is empty: its size ahead.", "wipe()=0 feed(1)=1 wipe()=1 wipe()=0 feed(32)*250 wipe()=250 status(7)=0"
                        + " 'law 1'=1",
                "'law 2' wipe()=5 'law 1'=1 status(3)=1");
    }

    private void promises19To25() {
        at("THE TAPE is an ESTATE: how many STATEMENTS; -20 less the FAULT (that is refused, too: BAD). THE TAPE is empty"
                        + " then, either way.",
                "'law 1'=1 status(7)=0 status(12)=0 'law ^4'! status(7)=0 status(12)=1 estate()!-20 status(12)=2 'law 2'=1",
                "'sides 3;thing 1 2 3;thing 4 5 6;law 3;order 2 1 0;bent 2 5;turn 9999;owns 2 1'=8 status(0..5)=3,2,1,3,9999,3"
                        + " thingOf(1,0..3)=2,4,5,6 sideOf(2,0)=5 whose(3,0..3)=2,1,0,2 status(6)=6 status(7)=0");
        at("Of a THING: its OWNER (what 0; NONE), its WORTH to SIDE what less 1 (1 on). BAD. (NONE isn't refused.)",
                "thing(10,20,30) thingOf(0,0..2)=-1,10,20 thingOf(0,3|4|-1|low|high)!-2 thingOf(1|-1|8|low|high,0)!-2"
                        + " own(0,1) thingOf(0,0)=1",
                "sides(3) thing(10,20,30) thingOf(0,0..3)=-1,10,20,30 thingOf(0,4|-1)!-2 own(0,2) thingOf(0,0)=2",
                "thingOf(0,0)!-2");
        at("Of a SIDE: BENT (0), what it HAS now (1), THINGS it owns (2, bits). BAD.",
                "'thing 10 20;thing 30 40;thing 50 60;owns 1 0;owns 1 2;bent 1 4'=6 sideOf(0,0..2)=0,0,0 sideOf(1,0..2)=4,80,5"
                        + " sideOf(2|-1|low|high,0)!-2 sideOf(0,3|-1|low|high)!-2 own(1,0) sideOf(0,1..2)=30,2",
                "thing(99,1,0)*8 own(0|1|2|3|4|5|6|7,0) sideOf(0,1..2)=792,255 sideOf(1,1..2)=0 status(6)=792",
                "sides(3) thing(1,2,3) own(0,2) sideOf(2,0..2)=0,3,1 sideOf(3,0)!-2");
        at("WHOSE TURN t (0 to 1,000,000,000) is by a LAW. BAD.",
                "whose(0..3,0)=0 whose(0..3,1000000000)=0,0,1,0 whose(0..3,1000000001|-1|low|high)!-2"
                        + " whose(4|-1|low|high,0)!-2 turn(1) whose(0,0)=0");
        at("RUNS by a LAW. BAD.", "runs(0..3,1)=1 runs(0..3,4000)=1,2,2,4000 runs(0..3,0|4001)!-2 runs(4|-1|low|high,1)!-2");
        at("POWERS by a LAW. -10000000000002.",
                "powers(0..3,0,0)=0 powers(0..3,1000,0)=0,0,0,1000 powers(4|-1,0,0)!-10000000000002"
                        + " powers(0..3,1001|-1,0)!-10000000000002"
                        + " powers(0,1,4|-1)!-10000000000002 status(12)=12");
        at("The RIVAL of a SIDE whose turn it were now; NONE. BAD. (NONE isn't refused.)",
                "rival(0..1)=1,0 rival(2|-1|low|high)!-2 law(3) rival(0..1)=-1,0 turn(1000000000) rival(0..1)=-1,0 status(12)=4",
                "sides(3) rival(0..2)=1,2,1 turn(1) rival(0..2)=2,2,0 turn(2) rival(0..2)=1,0,0 rival(3)!-2 turn(1000000000)"
                        + " rival(0..2)=2,2,0",
                "sides(3) law(3) {0 0: 0 0 2 1} order(0,4) rival(0..2)=2,0,0 turn(2) rival(0..2)=1,0,1 turn(3) rival(0..2)=2,0,0",
                "law(3) {0 0: 1 0 0 0 0 0 0 0 0 0 0 0} order(0,12) rival(0..1)=1,0 turn(1) rival(0..1)=1,0 turn(11)"
                        + " rival(0..1)=1,0",
                "sides(3) law(3) {0 0: 2} order(0,1) rival(0..2)=2,2,-1");
    }

    private void promises26To33() {
        at("What a SIDE would take now, if it were its turn. BAD; STUCK: nothing is LEFT.",
                "takes(0..1)!-5 takes(2|-1|low|high)!-2 thing(1,1,0) takes(0..1)=0 takes(2)!-2 own(0,0) takes(0..1)!-5"
                        + " takes(2)!-2",
                "'thing 9 0;thing 3 5;bent 1 2;bent 0 3'=4 takes(0)=1 takes(1)=0 turn(1) takes(0)=1 takes(1)=0 sides(3)!-5",
                "sides(3) thing(1,1,1) takes(2)=0 takes(3)!-2");
        at("A RUN by a LAW: the i-th THING that is taken. BAD; STUCK: not so many are LEFT.",
                "thing(1,1,0)*3 run(0..3,0)=0 run(0..3,2)=2 run(0..3,3)!-5 run(0,8|9|high)!-5 run(0,-1|low)!-2"
                        + " run(4|-1|low|high,0)!-2 run(4,9)!-2",
                "'thing 9 0;thing 0 9;bent 1 1'=3 run(0,0..1)=0,1 run(1,0..1)=0,1 turn(1) run(0,0..1)=1,0 own(0,0)"
                        + " run(0,0)=1 run(0,1)!-5");
        at("What a SIDE HAS at the end of a RUN by a LAW. BAD.",
                "'thing 4 4;thing 3 3;thing 2 2;thing 1 1'=4 gets(0..3,0)=6,5,5,10 gets(0..3,1)=4,5,5,0 gets(4|-1|low|high,0)!-2"
                        + " gets(0,2|-1|low|high)!-2", "sides(3) thing(1,2,3)*3 gets(0,0..2)=1,2,3 gets(0,3)!-2");
        at("UNEQUAL of a RUN by a LAW. BAD.",
                "'thing 4 4;thing 3 3;thing 2 2;thing 1 1'=4 unequal(0..3)=2,0,0,10 unequal(4|-1|low|high)!-2");
        at("THE GAME by a LAW: what a SIDE HAS at the end (side NONE: UNEQUAL). BAD.",
                "'thing 4 4;thing 3 3;thing 2 2;thing 1 1'=4 game(0..3,0)=6,5,5,10 game(0..3,1)=4,5,5,0 game(0..3,NONE)=2,0,0,10"
                        + " game(4|-1|low|high,0)!-2 game(0,2|-2|low|high)!-2",
                        "sides(3) thing(1,2,3)*3 game(0,0..2)=1,2,3 game(0,3)!-2");
        at("The THING taken first in THE GAME by a LAW. BAD; STUCK: nothing is LEFT.",
                "opening(0..3)!-5 opening(4|-1|low|high)!-2 thing(1,1,0)*2 opening(0..3)=0 own(0,0) opening(0..3)=1 own(1,1)"
                        + " opening(0)!-5",
                "'thing 10 0;thing 9 9;thing 0 8'=3 opening(0)=1 opening(3)=0 turn(1) opening(0)=1");
        at("FAIREST: UNEQUAL (i NONE), the SIDE of the i-th pick. BAD; STUCK: not so many are LEFT.",
                "thing(1,1,0)*3 fairest(NONE)=1 fairest(0..2)=0,0,1 fairest(3|8|9|high)!-5 fairest(-2|low)!-2",
                "fairest(NONE)=0 fairest(0|1)!-5 fairest(-2)!-2");
        at("BEST LAW.", "best()=0 'thing 4 4;thing 3 3;thing 2 2;thing 1 1'=4 best()=1 status(3)=0 law(3) best()=1");
    }

    private void promises34To39() {
        at("SHAM of a SIDE by the WORTHS told by the ROW in SHELF s (an element 0 to 99 for each THING), by LAW as it is.",
                "'thing 5 9;thing 5 1;bent 0 2;bent 1 1'=4 {0 0: 0 99} sham(1,0)=8 {1 3: 99 0 100 -1} sham(1,1)=0 {2 4: 0 1}"
                        + " sham(1,2)=8 law(3) sham(1,0)=0");
        at("-10000002 SHELF, SIDE; -10000003; -10000004; -10000002 fewer elements, none such.",
                "thing(1,1,0)*2 sham(0,8|-1)!-10000002 sham(2|-1,0)!-10000002 sham(0,0)!-10000004 sham(2,0)!-10000002"
                        + " show(0,0) sham(0,0)!-10000003"
                        + " sham(2,0)!-10000002",
                "thing(1,1,0)*2 {0 3: 1} sham(0,0)!-10000002 {0 3: 1 100} sham(0,0)!-10000002 {0 3: 100 1}"
                        + " sham(1,0)!-10000002 {0 3: -1 1} sham(0,0)!-10000002",
                "thing(1,1,0)*2 {0 3: 1 4294967296} sham(0,0)!-10000002 {0 3: 1 lowest} sham(0,0)!-10000002 {0 3:}"
                        + " sham(0,0)!-10000002",
                "thing(1,1,0)*2 own(0|1,0) {0 3: 1} sham(0,0)!-10000002 {0 3: 0 99 100} sham(0,0)=0",
                "{0 3: -1} sham(0,0)=0 row(1,0,0) sham(0,1)=0");
        at("A BOOK of the first n elements (0 to 8) of the ROW in SHELF s: WRONG; NONE. BAD SHELF, n; OTHER; NOTHING; BAD:"
                        + " fewer elements.",
                "thing(1,1,0)*2 {0 0: 0 11 7 7 7 7 7 7 7} judge(0,0..2)=-1 judge(0,3|8)=2 judge(0,9|-1|low|high)!-2"
                        + " judge(8|-1|low|high,0)!-2",
                "judge(0,0|8)!-4 judge(0,9|-1)!-2 show(0,0) judge(0,0|8)!-3 judge(0,9)!-2 {1 0: 0} judge(1,2|8)!-2"
                        + " judge(1,1)=0 judge(1,0)=-1 row(2,0,0)"
                        + " judge(2,0)=-1 judge(2,1)!-2");
        at("STOLEN (n 1 to 8); NONE. BAD; OTHER; NOTHING; BAD likewise. (NONE isn't refused.)",
                "thing(1,1,0)*2 {0 0: 0 11 7 7 7 7 7 7 7} stolen(0,1..4)=0,1,2,-1 stolen(0,8)=-1"
                        + " stolen(0,0|9|-1|low|high)!-2 stolen(8|-1|low|high,1)!-2",
                "stolen(0,1|8)!-4 stolen(0,0|9)!-2 show(0,0) stolen(0,1|8)!-3 stolen(0,0)!-2 {1 0: 0} stolen(1,2|8)!-2"
                        + " stolen(1,1)=0 row(2,0,0) stolen(2,1)!-2");
        at("BENTS that FIT a SIDE (bits). BAD, also the SIDE; OTHER; NOTHING; BAD likewise; STUCK: the BOOK is WRONG.",
                "thing(1,1,0)*2 {0 0: 0 11 7 7 7 7 7 7 7} fits(0,0,0..1)=63 fits(0,3|8,0)!-5 fits(0,9|-1|low|high,0)!-2"
                        + " fits(8|-1|low|high,0,0)!-2"
                        + " fits(0,1,2|-1|low|high)!-2",
                "fits(0,0|8,0)!-4 fits(0,1,2)!-2 show(0,0) fits(0,0|8,0)!-3 fits(0,1,2|-1)!-2 fits(0,9,0)!-2 {1 0: 0}"
                        + " fits(1,2|8,0)!-2 fits(1,1,0)!-5 fits(1,2,2)!-2",
                "sides(3) {0 0:} fits(0,0,2)=63 fits(0,0,3)!-2");
        at("TRADES: how many (what 0), the best (1). BAD; STUCK: 1, if there is none.",
                "trades(0)=0 trades(1)!-5 trades(2|-1|low|high)!-2",
                "'thing 1 5;thing 5 1;owns 0 0;owns 1 1'=4 trades(0..1)=1 trades(2|-1)!-2");
        at("Two THINGS change OWNERS in truth: 1; 0 if both have one OWNER (or none). BAD: also the same; STUCK: one is"
                        + " LEFT, the other isn't.",
                "thing(1,1,0)*5 own(0|1,0) own(2,1) swap(0,2)=1 thingOf(0..2,0)=1,0,0 swap(0,1)=1 thingOf(0..2,0)=0,1,0"
                        + " swap(2,0)=0 thingOf(0..2,0)=0,1,0"
                        + " swap(3,4)=0 thingOf(3..4,0)=-1 swap(0,3)!-5 swap(3,0)!-5 swap(0,0)!-2 swap(3,3)!-2 status(4)=0",
                "thing(1,1,0)*2 swap(0,2|-1|8|low|high)!-2 swap(2|-1|8|low|high,0)!-2 swap(2,2)!-2");
    }

    private void promises40To45() {
        at("A pick in truth: WHOSE turn it is takes a told THING; TURN is 1 more: the SIDE. BAD; STUCK: it isn't LEFT, TURN"
                        + " is 1,000,000,000.",
                "thing(1,1,0)*3 pick(2)=0 thingOf(2,0)=0 status(4)=1 pick(0)=1 pick(0|2)!-5 pick(3|-1|8|low|high)!-2 status(4)=2",
                "thing(1,1,0)*2 turn(1000000000) pick(0)!-5 turn(999999999) pick(0)=1 status(4)=1000000000 pick(0|1)!-5"
                        + " pick(2)!-2 turn(999999998) pick(1)=0",
                "sides(3) thing(1,1,1)*3 law(1) turn(2) pick(1)=2 pick(0)=2 pick(2)=1 status(4)=5", "pick(0)!-2");
        at("n picks (1 to 8) in truth by BENTS, until nothing is LEFT: how many. BAD; STUCK: TURN and n are above 1,000,000,000.",
                "goes(1)=0 goes(8)=0 status(4)=0 goes(0|9|-1|low|high)!-2",
                "thing(1,2,0)*8 goes(8)=8 status(4)=8 status(2)=0 goes(1)=0 sideOf(0,2)=85",
                "'thing 10 0;thing 9 9;thing 0 8;bent 0 5;bent 1 1'=5 goes(1)=1 thingOf(0..2,0)=-1,0,-1 status(4)=1"
                        + " goes(8)=2 thingOf(0..2,0)=0,0,1 status(4)=3",
                "thing(1,1,0)*3 turn(1000000000) goes(1)!-5 turn(999999999) goes(2|8)!-5 goes(9)!-2 goes(1)=1"
                        + " status(4)=1000000000 turn(999999998) goes(2)=2"
                        + " status(4)=1000000000",
                "turn(999999993) goes(8)!-5 goes(7)=0 status(4)=999999993 turn(999999992) goes(8)=0 goes(0)!-2",
                "'thing 5 1;thing 1 5;thing 3 3;thing 4 4;bent 0 3;bent 1 2;law 1'=7 goes(2)=2 goes(2)=2 again()=4 goes(4)=4");
        at("A BOOK comes to pass in truth: how many picks. BAD; OTHER; NOTHING; BAD; STUCK: it is WRONG, TURN would be above"
                        + " 1,000,000,000.",
                "thing(1,1,0)*3 turn(1) {0 0: 12 0 11} books(0,0)=0 status(4)=1 books(0,2)=2 thingOf(0..2,0)=0,-1,1"
                        + " status(4)=3 books(0,3)!-5 books(0,1)!-5",
                "books(0,0|8)!-4 books(0,9|-1|low|high)!-2 books(8|-1|low|high,0)!-2 show(0,0) books(0,0|8)!-3 books(0,9)!-2"
                        + " {1 0: 0} books(1,2|8)!-2 books(1,1)!-5"
                        + " row(2,0,0) books(2,0)=0 books(2,1)!-2",
                "thing(1,1,0)*2 turn(1000000000) {0 0: 0 11} judge(0,2)=-1 books(0,1..2)!-5 books(0,0)=0 {1 0: 10 1}"
                        + " turn(999999999) books(1,2)!-5 books(1,1)=1"
                        + " status(4)=1000000000",
                "thing(1,1,0)*2 turn(999999998) {0 0: 0 11} books(0,2)=2 status(4)=1000000000",
                "thing(1,1,0)*8 {0 0: 0 11 2 13 4 15 6 17} books(0,8)=8 status(4)=8"
                        + " sideOf(0..1,2)=85,170");
        at("All is LEFT, TURN is 0: how many weren't LEFT.",
                "'thing 1 1;thing 2 2;thing 3 3;owns 0 0;owns 1 2;turn 7;law 1;bent 0 2;order 1 1'=9 again()=2"
                        + " status(1..5)=3,7,1,0,2 sideOf(0,0)=2 again()=0",
                "again()=0 turn(9) again()=0 status(4)=0 thing(1,1,0)*8 goes(8) again()=8 status(2)=255 thingOf(0..7,0)=-1");
        at("BY DRAWS n THINGS (1 to 8), until there is no room: how many. BAD.",
                "deal(8)=8 status(1)=8 deal(8)=0 deal(1)=0 deal(0|9|-1|low|high)!-2",
                "thing(1,1,0)*7 deal(8)=1 thingOf(7,0..2)=-1,38,26 status(8)=-1770082073 deal(1)=0"
                        + " status(8)=-1770082073", "deal(1)=1 thing(100,0,0)!-2 status(1)=1 deal(7)=7 deal(0|9)!-2",
                        "deal(0|9|-1|low|high)!-2 status(8)=1");
        at("SEED becomes v: the one ahead.", "seed(5)=1 seed(low)=5 seed(high)=-2147483648 seed(-1)=2147483647 seed(0)=-1"
                        + " status(8)=0 status(12)=0");
    }

    private void promises46To48() {
        at("All is kept, but THE TAPE, SHELVES and REFUSALS: 1.",
                "image()=1 status(0..9)=2,0,0,0,0,1,0,0,1,0 back()=1",
                "'sides 3;thing 1 2 3;thing 4 5 6;owns 2 1;law 3;order 2 1;turn 77;bent 2 3'=8 seed(99)=1 {0 0: 5} feed(97)"
                        + " law(9)!-2 image()=1"
                        + " {0 3: 1099511627776} show(1,2) feed(98) thing(7,7,7) worth(1,0,50) own(0,0) law(1) bent(2,0)"
                        + " bent(0,4) turn(3) seed(5)=99"
                        + " {2 0: 0 0 0} order(2,3) law(9)!-2 back()=1 status(0..9)=3,2,1,3,77,2,6,2,99,3"
                        + " status(12..16)=2,0,0,0,0 thingOf(0,0..3)=-1,1,2,3"
                        + " thingOf(1,0..3)=2,4,5,6 sideOf(0..2,0)=0,0,3 whose(3,0..2)=2,1,2 element(0,0)=1099511627776"
                        + " holds(1)=13");
        at("All is again as it was kept: 1. STUCK: nothing was.",
                "back()!-5 image()=1 back()=1 thing(1,1,0) back()=1 status(1)=0 sides(3)=2 back()=1 status(0)=2 status(15)=1",
                "thing(1,2,0) image() own(0,1) back()=1 thingOf(0,0)=-1 pick(0) back()=1 thingOf(0,0)=-1 status(4)=0"
                        + " worth(0,0,9) back()=1 thingOf(0,1)=1",
                "image() thing(1,2,0) image() thing(3,4,0) back()=1 status(1)=1 back()=1 status(1)=1",
                "image() bent(0,5) law(2) turn(4) seed(7)=1 back()=1"
                        + " sideOf(0,0)=0 status(3..4)=0 status(8)=1",
                        "sides(3) image() sides(2) back()=1 status(0)=3 bent(2,1)=0");
        at("SIDES (0), THINGS (1), THINGS that are LEFT (2, bits), LAW (3), TURN (4), how many SIDES ORDER has (5), UNEQUAL"
                        + " as it is now (6),"
                + " THE TAPE's size (7), SEED (8), SHELVES that hold something (9); 12 to 16: REFUSALS -2 to -6. NONE"
                        + " another what.",
                "'sides 3;thing 9 0 0;thing 0 5 0;thing 0 0 1;owns 0 0;owns 1 1;owns 2 2;order 0 1 2 1;turn 4;law 2'=10"
                        + " feed(1) show(4,0) row(5,0,0)"
                        + " status(0..11)=3,3,0,2,4,4,8,1,1,2,-1,-1 status(12..16)=0 status(17|18|-1|-2|low|high)=-1"
                        + " status(12)=0",
                "row(0..7,0,0) status(9)=8 show(0..7,0) status(9)=8 show(0..6,NONE) status(9)=1 show(7,NONE) status(9)=0",
                "law(4)!-2 show(4,0) set(4,0,0)!-3 set(4,0,0)!-3 set(0,0,0)!-4 back()!-5 back()!-5 back()!-5 thing(1,1,0)*8"
                        + " thing(1,1,0)!-6 status(12..16)=1,2,1,3,1",
                "thing(1,1,0)*8 status(2)=255 own(0|7,1) status(2)=126 status(6)=2 feed(1)*250 status(7)=250");
    }

    /** What of the document no test quotes, for who reads it again; the run does not depend on it. */
    private void tellUnquoted(Path document) throws Exception {
        String text = Files.readString(document).replaceAll("\\s+", " ");
        for (String sentence : quoted) {
            if (!text.contains(sentence)) {
                System.out.println("not in the document: " + sentence);
            }
        }
        quoted.sort((a, b) -> b.length() - a.length());
        for (String sentence : quoted) {
            text = text.replace(sentence, "|");
        }
        for (String rest : text.split("\\|")) {
            if (!rest.isBlank()) {
                System.out.println("no test: " + rest.trim());
            }
        }
    }

    public static void main(String[] args) throws Exception {
        Due.mustEndWithin(300);
        EdgesTest t = new EdgesTest();
        t.anObject();
        t.sidesAndThings();
        t.laws();
        t.bents();
        t.tokens();
        t.words();
        t.statements();
        t.faults();
        t.picks();
        t.looks();
        t.runsOfPicks();
        t.games();
        t.fairest();
        t.sums();
        t.shams();
        t.books();
        t.tradesAndTruth();
        t.shelvesAndRefusals();
        t.promises1To8();
        t.promises9To18();
        t.promises19To25();
        t.promises26To33();
        t.promises34To39();
        t.promises40To45();
        t.promises46To48();
        if (args.length > 0) {
            t.tellUnquoted(Path.of(args[0]));
        }
        t.d.end();
    }
}
