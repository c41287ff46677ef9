/** Terms 1 and promises 1 to 5: each sentence that names an edge, by a test of its own. */
public final class TextEdgesTest extends Checks {
    private static final String SEVEN_LOOPED = points(7) + lines("aa aa aa bb bb bb cc cc cc dd dd dd ee ee ee ff ff ff");

    private static boolean isLetter(int c) {
        return c >= 'a' && c <= 'z';
    }

    private static boolean isDigit(int c) {
        return c >= '0' && c <= '9';
    }

    private static boolean isBlank(int c) {
        return c == 32 || c == 10;
    }

    private static String blanks(int n) {
        return times(n, " ");
    }

    /** Every byte there is, at each place where a text can go on in another way. */
    private static void everyByte() {
        promise("tokens: every byte");
        for (int c = 0; c < 256; c++) {
            String s = String.valueOf((char) c);
            if (isBlank(c)) {
                right(s, 0);
                right("point" + s + "a;", 1);
                right("point a" + s + "3;", 1);
                right("point a " + s + ";", 1);
                right("point a;" + s, 1);
                continue;
            }
            fault(s, 1, 0);
            fault("point a;" + s, 1, 8);
            fault("point" + s + "a;", 1, isLetter(c) || isDigit(c) ? 0 : 5);
            if (isLetter(c)) {
                right("point " + s + ";", 1);
                right("point a" + s + ";", 1);
            } else {
                fault("point " + s + ";", 1, 6);
            }
            nameOrWeightBehind(c, s);
        }
    }

    private static void nameOrWeightBehind(int c, String s) {
        if (c == ';') {
            fault("point a " + s + ";", 1, 9);
            fault("point a" + s + "3;", 1, 8);
        } else if (isDigit(c)) {
            fault("point a" + s + ";", 1, 6);
            if (c == '0') {
                fault("point a " + s + ";", 2, 8);
            } else {
                right("point a " + s + ";", 1);
            }
        } else {
            fault("point a " + s + ";", 1, 8);
            fault("point a" + s + "3;", 1, isLetter(c) ? 6 : 7);
        }
    }

    private static void wordsOfOneToSeven() {
        promise("WORDS: 1 to 7 small letters");
        String letters = "abcdefghijklmnopqrstuvwxyz";
        for (int n = 1; n <= 26; n++) {
            String name = letters.substring(26 - n);
            if (n <= 7) {
                right("point " + name + ";line " + name + " " + name + ";", 2);
            } else {
                fault("point " + name + ";", 1, 6);
                fault("point a;line a " + name + ";", 1, 15);
            }
        }
        promise("a WORD, NUMBER goes on as long as letters and digits do");
        fault("point a 1b;", 1, 8);
        fault("point a 1" + times(20, "b") + ";", 1, 8);
        fault("point " + times(20, "9") + ";", 1, 6);
        fault("pointa 1;", 1, 0);
        fault("point a;linea a;", 1, 8);
        fault("point a;line aa;", 3, 13);
        promise("with blanks between them or not");
        right("point a;point b;line a b;", 3);
        right("point a 1;line a a;line a a;", 3);
        right(" point\na ;\n\n point  b  2 \n;line\n\na\nb\n; ", 3);
        promise("names that differ in one place, or in length");
        right("point a;point aa;point aaa;point aaaaaaa;point aaaaaab;point baaaaaa;point z;point az;point za;", 9);
        right("point pointa;point points;point poin;point lin;point linea;point tniop;point enil;", 7);
    }

    private static void numbersOfOneOrTwo() {
        promise("NUMBERS: 1 or 2 digits; a WEIGHT from 1 to 9");
        for (int n = 0; n < 100; n++) {
            if (n >= 1 && n <= 9) {
                RingCutters x = told("point a " + n + ";");
                due("weight", x.now(5), n);
            } else {
                fault("point a " + n + ";", 2, 8);
            }
        }
        fault("point a 00;", 2, 8);
        fault("point a 000;", 1, 8);
        fault("point a 001;", 1, 8);
        fault("point a 100;", 1, 8);
        fault("point a 4294967297;", 1, 8);
        fault("point a -1;", 1, 8);
        promise("WEIGHT: 1 without");
        due("weight", told("point a;").point(0, 0), 1);
        promise("a weight is not kept from the text ahead");
        RingCutters x = told("point a 9;point b 8;");
        due("net", tell(x, "point a;point b 2;"), 2);
        due("weight", x.point(0, 0), 1);
        due("weight", x.point(1, 0), 2);
    }

    private static void sixHundredBytes() {
        promise("a NET is a text of at most 600 bytes");
        right("point a;" + blanks(591), 1);
        right("point a;" + blanks(592), 1);
        right(blanks(592) + "point a;", 1);
        right(blanks(600), 0);
        fault(blanks(601), 1, 600);
        fault(blanks(640), 1, 600);
        fault("point a;" + blanks(593), 1, 600);
        fault(blanks(593) + "point a;", 1, 600);
        fault(blanks(632) + "point a;", 1, 600);
        promise("the end: how many bytes there are");
        fault("line", 1, 4);
        fault("point a;line a", 1, 14);
        fault("point a;line a a   ", 1, 19);
        fault(blanks(593) + "point a", 1, 600);
        fault(blanks(592) + "point a", 1, 599);
        fault(blanks(594) + "line", 1, 598);
        promise("600, if there are more and no FAULT is ahead");
        fault(blanks(599) + "?" + blanks(5), 1, 599);
        fault(blanks(600) + "?" + blanks(5), 1, 600);
        fault("point a " + blanks(591) + "0" + blanks(9), 2, 599);
        fault("point a " + blanks(592) + "0" + blanks(9), 1, 600);
        fault("point a;point " + blanks(585) + "a" + blanks(9), 3, 599);
        fault("point a;point " + blanks(586) + "a" + blanks(9), 1, 600);
        fault(points(12) + blanks(503) + "point m;", 4, 599);
        fault(points(12) + blanks(504) + "point m;", 1, 600);
        promise("TOKENS that begin ahead of it are read whole");
        fault(blanks(599) + "line a a;", 1, 600);
        fault(blanks(599) + "lines", 1, 599);
        fault("point " + blanks(593) + "abcdefg;", 1, 600);
        fault("point " + blanks(593) + "abcdefgh;", 1, 599);
        fault("point a " + blanks(591) + "12;", 2, 599);
        fault("point a " + blanks(591) + "123;", 1, 599);
        fault("point a " + blanks(591) + "09;", 1, 600);
        fault("point ab;line ab " + blanks(582) + "ab;", 1, 600);
        fault("point ab;line ab " + blanks(582) + "abc;", 3, 599);
        fault(blanks(599) + times(41, "z"), 1, 599);
    }

    private static void rowsAndTheirTokens() {
        promise("{ ROW ; }: none, one, many");
        right("", 0);
        right("point a;", 1);
        right(SEVEN_LOOPED + lines("gg gg"), 27);
        promise("1: one that can't come (at it)");
        for (String wrong : new String[] {";", "1", "a", "name"}) {
            fault(wrong, 1, 0);
            fault("point a;" + wrong, 1, 8);
        }
        for (String wrong : new String[] {";", "1", "10", "0", "point", "line"}) {
            fault("point " + wrong, 1, 6);
            fault("point a;line " + wrong, 1, 13);
            fault("point a;line a " + wrong, 1, 15);
        }
        for (String wrong : new String[] {"1", "10", "0", "point", "line", "a"}) {
            fault("point a 1 " + wrong, 1, 10);
            fault("point a;line a a " + wrong, 1, 17);
        }
        for (String wrong : new String[] {"point", "line", "a"}) {
            fault("point a " + wrong, 1, 8);
        }
        promise("of one TOKEN the least");
        fault("point a 1 0;", 1, 10);
        fault("point a 1 99;", 1, 10);
        fault("0", 1, 0);
        fault(points(12) + "line a point", 1, 103);
        promise("the first along the text");
        fault("point a 0;point a;?", 2, 8);
        fault("point a;point a 0;?", 3, 14);
        fault("point a;?point a;", 1, 8);
        fault("line b b;point b 0;", 3, 5);
        fault(points(12) + "point a 0;", 4, 96);
        fault(points(1) + lines("aa aa aa aa bb"), 5, 8 + 27 + 5);
    }

    private static void namesToldOnce() {
        promise("NAME: told once");
        fault("point a;point a;", 3, 14);
        fault(points(12).substring(0, 88) + "point a;", 3, 94);
        fault("point abcdefg;point abcdefg;", 3, 20);
        promise("3: a NAME not told (at the WORD)");
        fault("line a a;", 3, 5);
        fault("point a;line a b;point b;", 3, 15);
        fault("point a;line b a;point b;", 3, 13);
        fault("point ab;line a ab;", 3, 14);
        promise("a NAME of the text ahead is not told");
        RingCutters x = told(points(2));
        due("net", tell(x, "point b;line a b;"), -14);
        due("fault", x.fault(), 3);
        promise("POINTS numbered from 0 as told");
        RingCutters y = told("point z 3;point a 5;line a a;point m 7;line m z;");
        due("first", y.point(0, 0), 3);
        due("second", y.point(1, 0), 5);
        due("third", y.point(2, 0), 7);
        due("loops of the second", y.lines(1, 1), 1);
        due("lines of the third", y.lines(2, 0), 1);
    }

    private static void twelvePointsTwentyLines() {
        promise("12 POINTS at most");
        RingCutters x = told(points(12));
        due("there", x.now(1), 4095);
        fault(points(12) + "point m;", 4, 96);
        fault(points(12) + "line a b;point m;", 4, 105);
        promise("20 LINES at most");
        RingCutters y = told(SEVEN_LOOPED + lines("gg gg"));
        due("lines", y.now(2), 20);
        int behind = SEVEN_LOOPED.length() + 18;
        fault(SEVEN_LOOPED + lines("gg gg gg"), 4, behind);
        fault(SEVEN_LOOPED + lines("gg gg") + "line", 4, behind);
        right(SEVEN_LOOPED + lines("gg gg") + "point h;", 28);
        fault(SEVEN_LOOPED + lines("gg gg") + "point h;line h h;", 4, behind + 8);
        promise("of the 21st LINE, whose POINTS are full or not told, the ROW's first WORD");
        fault(SEVEN_LOOPED + lines("gg gg aa"), 4, behind);
        fault(SEVEN_LOOPED + lines("gg gg xx"), 4, behind);
    }

    private static void sixEnds() {
        promise("a POINT has 6 ENDS at most");
        right(points(2) + lines("ab ab ab ab ab ab"), 8);
        right(points(1) + lines("aa aa aa"), 4);
        right(points(7) + lines("ab ac ad ae af ag"), 13);
        right(points(3) + lines("ab ab ac ac aa"), 8);
        promise("5: at the WORD");
        fault(points(2) + lines("ab ab ab ab ab ab ab"), 5, 16 + 54 + 5);
        fault(points(2) + lines("ab ab ab ab ab ab ba"), 5, 16 + 54 + 5);
        fault(points(3) + lines("ab ab ab ab ab ab ac"), 5, 24 + 54 + 5);
        fault(points(3) + lines("ab ab ab ab ab ab ca"), 5, 24 + 54 + 7);
        promise("5: each of the two is one more");
        fault(points(1) + lines("aa aa aa aa"), 5, 8 + 27 + 5);
        fault(points(2) + lines("aa aa ab aa"), 5, 16 + 27 + 7);
        right(points(2) + lines("aa ab ab aa"), 6);
        promise("5: a full POINT ahead of a NAME not told, behind one");
        fault(points(1) + lines("aa aa aa") + "line a x;", 5, 8 + 27 + 5);
        fault(points(1) + lines("aa aa aa") + "line x a;", 3, 8 + 27 + 5);
    }

    private static void newObject() {
        promise("1: a NET without POINTS; an empty tape");
        RingCutters x = new RingCutters();
        for (int what = 0; what <= 7; what++) {
            due("now " + what, x.now(what), 0);
        }
        due("fault", x.fault(), 0);
        yes("no point", pointThrows(x, 0, 0));
        due("lines", x.lines(0, 0), NONE);
        due("cuts", x.cuts(0), 1);
        due("cuts", x.cuts(1), NONE);
        for (int what = 0; what <= 2; what++) {
            due("fewest", x.fewest(what), 0);
            due("lightest", x.lightest(what), 0);
            due("those", x.those(what), what == 0 ? 1 : 0);
        }
        due("sparing", x.sparing(0), 0);
        due("sparing", x.sparing(1), NONE);
        due("upTo", x.upTo(0), NONE);
        due("rings", x.rings(), 0);
        due("shortest", x.shortest(), 0);
        due("packed", x.packed(), 0);
        due("pack", x.pack(0), NONE);
        due("near", x.near(), 0);
        bound(x, 0, 1);
        due("shrink", x.shrink(), NONE);
        due("shrinkAll", x.shrinkAll(), 0);
        due("drop", x.drop(0), NONE);
        due("join", x.join(0, 0), NONE);
        due("part", x.part(0, 0), NONE);
        due("weigh", x.weigh(0, 1), NONE);
        due("drawn", x.drawn(60, 1), 0);
        due("undo", x.undo(), NONE);
        no("restore 0", x.restore(0));
        no("restore 1", x.restore(1));
        promise("1: one object has nothing of another");
        told(TRIANGLE).image(0);
        due("points", new RingCutters().now(0), 0);
        no("restore", new RingCutters().restore(0));
    }

    private static void feed() {
        promise("2: of each number the highest byte first");
        RingCutters x = new RingCutters();
        due("feed", x.feed(0x706f696e, 0x74206120, 0x393b6c69, 0x6e652061, 0x20613b0a), 20);
        due("net", x.net(), 2);
        due("weight", x.now(5), 9);
        due("loops", x.lines(0, 0), 1);
        promise("2: bytes above 127 are none of a TOKEN");
        due("feed", x.feed(0xf06f696e, 0x74206120, 0, 0, 0), 20);
        due("net", x.net(), -1);
        due("feed", x.feed(0x706f696e, 0x742061a0, 0, 0, 0), 20);
        due("net", x.net(), -8);
        promise("2: how many it has");
        for (int n = 20; n <= 640; n += 20) {
            due("feed", x.feed(0, 0, 0, 0, 0), n);
        }
        promise("2: NONE, and none come, if it would have more than 640");
        due("feed", x.feed(1, 1, 1, 1, 1), NONE);
        due("feed", x.feed(1, 1, 1, 1, 1), NONE);
        due("tape", x.now(7), 640);
        yes("end", x.end(639));
        due("feed", x.feed(1, 1, 1, 1, 1), NONE);
        due("tape", x.now(7), 639);
        yes("end", x.end(621));
        due("feed", x.feed(1, 1, 1, 1, 1), NONE);
        yes("end", x.end(620));
        due("feed", x.feed(0, 0, 0, 0, 0), 640);
        yes("end", x.end(619));
        due("feed", x.feed(0, 0, 0, 0, 0), 639);
        promise("2: none of a refused feed come");
        RingCutters y = new RingCutters();
        for (int n = 20; n <= 620; n += 20) {
            y.feed(0x20202020, 0x20202020, 0x20202020, 0x20202020, 0x20202020);
        }
        y.feed(0x20202020, 0x20202020, 0x20202020, 0x20202020, 0x20202020);
        due("feed", y.feed(0x3f3f3f3f, 0x3f3f3f3f, 0x3f3f3f3f, 0x3f3f3f3f, 0x3f3f3f3f), NONE);
        yes("end", y.end(600));
        due("net", y.net(), 0);
        promise("2: behind the tape");
        feed(y, "point");
        feed(y, " a 4;");
        due("tape", y.now(7), 10);
        due("net", y.net(), 1);
        due("weight", y.now(5), 4);
    }

    private static void end() {
        promise("3: the first n bytes alone");
        RingCutters x = new RingCutters();
        feed(x, "point a;point b;?");
        yes("end", x.end(17));
        due("tape", x.now(7), 17);
        yes("end", x.end(16));
        due("tape", x.now(7), 16);
        no("what has gone does not come again", x.end(17));
        promise("3: false, if it has not so many, or n is below 0");
        no("end", x.end(Integer.MAX_VALUE));
        no("end", x.end(-1));
        no("end", x.end(Integer.MIN_VALUE));
        due("tape", x.now(7), 16);
        yes("end", x.end(0));
        due("tape", x.now(7), 0);
        yes("end", x.end(0));
        no("end", x.end(1));
        due("net", x.net(), 0);
        promise("3: bytes cut off do not end a WORD or go on with one");
        feed(x, "point abc;");
        yes("end", x.end(8));
        feed(x, ";line ab ab;");
        due("net", x.net(), 2);
        cutOff("lin", "e", 1, 0);
        cutOff("line", "s", 1, 4);
        cutOff("point a 1", "0;", 1, 9);
        cutOff("point a;line a a", "b;", 1, 16);
        cutOff("point a;point b", ";", 1, 15);
        cutOff("point abcdefg", "h;", 1, 13);
        yes("nothing at all", x.end(0));
        feed(x, "point a;");
        yes("end", x.end(0));
        due("net", x.net(), 0);
    }

    /** Of a longer text the first bytes alone are a text. */
    private static void cutOff(String text, String behind, int kind, int place) {
        RingCutters x = new RingCutters();
        feed(x, text + behind);
        yes("end of " + text, x.end(text.length()));
        due("net of " + text, x.net(), -1 - place);
        due("fault of " + text, x.fault(), kind);
    }

    private static void net() {
        promise("4: how many ROWS");
        due("rows", tell(new RingCutters(), points(3) + lines("ab aa")), 5);
        promise("4: all THERE, none TAKEN");
        RingCutters x = told(TRIANGLE + "line a a;");
        due("shrink", x.shrink(), 0);
        due("net", tell(x, TRIANGLE), 6);
        due("there", x.now(1), 7);
        due("taken", x.now(3), 0);
        promise("4: the tape is empty then");
        due("tape", x.now(7), 0);
        promise("4: the tape is empty then, even with a FAULT; the NET stays");
        x.drop(0);
        x.weigh(1, 8);
        due("net", tell(x, "point a 5;point b 5;line a b;?"), -30);
        due("tape", x.now(7), 0);
        due("points", x.now(0), 3);
        due("there", x.now(1), 6);
        due("weight", x.point(1, 0), 8);
        due("lines", x.now(2), 1);
        due("acts", x.now(6), 2);
        due("undo", x.undo(), 1);
        due("weight", x.point(1, 0), 1);
        promise("4: -1 less the place of a FAULT at the first byte");
        due("net", tell(x, "?"), -1);
        promise("terms: a NET, nothing can be undone");
        due("acts", x.now(6), 1);
        due("net", tell(x, TRIANGLE), 6);
        due("acts", x.now(6), 0);
        due("undo", x.undo(), NONE);
        promise("4: what was asked of a NET is not told of the next");
        RingCutters y = told(points(3) + lines("ab bc ca"));
        due("asked", y.fewest(1) + y.packed() + y.near() + y.bound(0), 1 + 1 + 4 + 1);
        tell(y, points(3) + lines("bb cc"));
        due("fewest", y.fewest(1), 6);
        due("packed", y.packed(), 2);
        due("near", y.near(), 6);
        bound(y, 2, 1);
        promise("4: of an empty tape, a NET without POINTS");
        x.drop(0);
        due("net", x.net(), 0);
        due("points", x.now(0), 0);
        due("there", x.now(1), 0);
        due("lines", x.now(2), 0);
        due("undo", x.undo(), NONE);
    }

    private static void fault() {
        promise("5: 0 ahead of any; the kind of the latest; 0 without one");
        RingCutters x = new RingCutters();
        due("fault", x.fault(), 0);
        String[] texts = {"?", "point a 0;", "line a a;", SEVEN_LOOPED + lines("gg gg gg"), points(1) + lines("aa aa aa aa")};
        for (int kind = 1; kind <= 5; kind++) {
            tell(x, texts[kind - 1]);
            due("fault", x.fault(), kind);
            feed(x, "point a;");
            due("fault, a text fed", x.fault(), kind);
            due("net", x.net(), 1);
            due("fault", x.fault(), 0);
        }
        tell(x, "?");
        due("net of nothing", x.net(), 0);
        due("fault", x.fault(), 0);
    }

    public static void main(String[] args) {
        everyByte();
        wordsOfOneToSeven();
        numbersOfOneOrTwo();
        sixHundredBytes();
        rowsAndTheirTokens();
        namesToldOnce();
        twelvePointsTwentyLines();
        sixEnds();
        newObject();
        feed();
        end();
        net();
        fault();
        finish();
    }
}
