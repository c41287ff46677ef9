/** Terms 2 and promises 6 to 20: each sentence that names an edge, by a test of its own. */
public final class QuestionEdgesTest extends Checks {
    private static final String ALL_LOOPED = points(12) + lines("aa bb cc dd ee ff gg hh ii jj kk ll");
    private static final String ROUND = points(12) + lines("ab bc cd de ef fg gh hi ij jk kl la");

    private static void now() {
        promise("6: of each what, an empty net and a full one");
        RingCutters x = told(ALL_LOOPED + lines("ab bc cd de ef fg gh hi"));
        int[] full = {12, 4095, 20, 0, 4, 12, 0, 0};
        for (int what = 0; what <= 7; what++) {
            due("now " + what, x.now(what), full[what]);
        }
        promise("6: POINTS that were told, those THERE, TAKEN: told stays as points go");
        x.shrink();
        x.drop(11);
        x.drop(5);
        due("told", x.now(0), 12);
        due("there", x.now(1), 4095 - 1 - 2048 - 32);
        due("taken", x.now(3), 1);
        due("lines", x.now(2), 20 - 2 - 1 - 3);
        due("weight", x.now(5), 9);
        due("acts", x.now(6), 3);
        promise("6: PARTS: POINTS THERE that LINES join are one");
        due("parts: two of the first, two alone", x.now(4), 4);
        due("one point", told(points(1)).now(4), 1);
        due("alone", told(points(12)).now(4), 12);
        due("loops join none", told(ALL_LOOPED).now(4), 12);
        due("one way round", told(ROUND).now(4), 1);
        due("a way in no order", told(points(6) + lines("af fb be ec cd")).now(4), 1);
        due("two", told(points(6) + lines("af fb be cd")).now(4), 2);
        RingCutters y = told(points(5) + lines("ab bc cd de"));
        y.drop(2);
        due("by a point that went none is joined", y.now(4), 2);
        promise("6: the greatest WEIGHT of all THERE");
        RingCutters z = told(points(12).replace(";", " 9;"));
        due("weight", z.now(5), 108);
        promise("6: NONE for another what");
        for (int what : ODD) {
            due("now " + what, x.now(what), NONE);
        }
        due("now 8", x.now(8), NONE);
    }

    private static void point() {
        promise("7: ENDS: a LOOP has two at it");
        RingCutters x = told(points(3) + lines("aa aa aa bb bc bc"));
        due("three loops", x.point(0, 1), 6);
        due("three loops", x.point(0, 2), 3);
        due("a loop and two lines", x.point(1, 1), 4);
        due("one loop", x.point(1, 2), 1);
        due("two lines", x.point(2, 1), 2);
        due("no loop", x.point(2, 2), 0);
        promise("7: those to which it has LINES as bits (itself not)");
        due("loops alone", x.point(0, 3), 0);
        due("told twice", x.point(1, 3), 4);
        due("six others", told(points(7) + lines("da db dc de df dg")).point(3, 3), 127 - 8);
        promise("7: no such ones: another point, another what");
        for (int odd : ODD) {
            yes("point " + odd, pointThrows(x, odd, 0));
            yes("what " + odd, pointThrows(x, 0, odd));
        }
        yes("point 3", pointThrows(x, 3, 0));
        yes("what 4", pointThrows(x, 0, 4));
        yes("the last of twelve", told(points(12)).point(11, 0) == 1);
        yes("a 13th", pointThrows(told(points(12)), 12, 0));
        promise("7: it is not THERE");
        x.drop(2);
        for (int what = 0; what <= 3; what++) {
            yes("gone", pointThrows(x, 2, what));
        }
        due("none of one that went is told", x.point(1, 3), 0);
        due("ends went with it", x.point(1, 1), 2);
        x.shrink();
        yes("taken", pointThrows(x, 0, 0));
    }

    private static void linesBetween() {
        promise("8: LINES between two POINTS (of one: LOOPS)");
        RingCutters x = told(points(12) + lines("ab ab ab ba ba ba ll ll ll kk"));
        due("six", x.lines(0, 1), 6);
        due("six", x.lines(1, 0), 6);
        due("three loops", x.lines(11, 11), 3);
        due("none", x.lines(10, 11), 0);
        due("loop", x.lines(10, 10), 1);
        promise("8: NONE: they are not THERE");
        for (int odd : ODD) {
            due("lines", x.lines(0, odd), NONE);
            due("lines", x.lines(odd, 0), NONE);
            due("lines", x.lines(odd, odd), NONE);
            due("lines", x.lines(11, odd), NONE);
        }
        due("a pair that is the place of another", x.lines(10, 23), NONE);
        due("a pair that is the place of another", x.lines(11, -1), NONE);
        x.drop(1);
        due("one went", x.lines(0, 1), NONE);
        due("one went", x.lines(1, 0), NONE);
        due("it went", x.lines(1, 1), NONE);
        due("of one told and none of thirteen", told(points(1)).lines(0, 1), NONE);
    }

    private static void ringsTerm() {
        promise("terms: a RING has each LINE and each POINT once");
        RingCutters eight = told(points(5) + lines("ab bc ca cd de ec"));
        due("two at one point are not a third", eight.rings(), 2);
        due("the shortest", eight.shortest(), 7);
        due("a cut of one", eight.fewest(1), 4);
        RingCutters bars = told(points(4) + lines("ab ab bc cd cd"));
        due("a way there and back is none", bars.rings(), 2);
        promise("terms: a LOOP; two LINES between two POINTS, too");
        due("loop", told(points(1) + lines("aa")).shortest(), 1);
        due("two lines", told(points(2) + lines("ab ba")).shortest(), 3);
        due("one line", told(points(2) + lines("ab")).shortest(), 0);
        due("loop and two lines", told(points(2) + lines("ab ba bb")).rings(), 2);
    }

    private static void cuts() {
        promise("9: 1, 0: no set at all, all of them");
        RingCutters x = told(ROUND);
        due("none", x.cuts(0), 0);
        due("all", x.cuts(4095), 1);
        for (int p = 0; p < 12; p++) {
            due("each one", x.cuts(1 << p), 1);
        }
        due("a forest", told(points(12) + lines("ab bc cd de ef fg gh hi ij jk kl")).cuts(0), 1);
        promise("9: without their LINES");
        RingCutters y = told(points(3) + lines("ab ab bc bc cc"));
        due("the middle", y.cuts(2), 0);
        due("the last", y.cuts(4), 0);
        due("both", y.cuts(6), 1);
        due("the first and the last", y.cuts(5), 1);
        promise("9: NONE: some of it are not THERE");
        due("beyond the told", y.cuts(8), NONE);
        due("one there, one beyond", y.cuts(2 + 8), NONE);
        for (int bit = 3; bit < 32; bit++) {
            due("bit " + bit, y.cuts(1 << bit), NONE);
        }
        due("all bits", y.cuts(-1), NONE);
        y.drop(0);
        due("gone", y.cuts(1), NONE);
        due("gone and there", y.cuts(7), NONE);
        due("those there", y.cuts(4), 1);
        y.shrink();
        due("taken", y.cuts(4), NONE);
        due("nothing left of rings", y.cuts(0), 1);
    }

    private static void fewestAndLightest() {
        promise("10: FEWEST: of the fewest POINTS; of like ones the least number");
        due("the greater number, but fewer", told(points(4) + lines("ad ad bd bd cd cd")).fewest(1), 8);
        due("two of four", told(points(4) + lines(FOUR)).fewest(1), 3);
        due("two of four, how many", told(points(4) + lines(FOUR)).fewest(0), 2);
        due("two parts", told(points(6) + lines("af af ec ec")).fewest(1), 1 + 4);
        due("weight is of no matter", told("point a 9;point b;" + lines("ab ab")).fewest(1), 1);
        due("its weight", told("point a 9;point b;" + lines("ab ab")).fewest(2), 9);
        promise("10: the most there can be, the least there can be");
        RingCutters all = told(ALL_LOOPED);
        due("all", all.fewest(0), 12);
        due("all", all.fewest(1), 4095);
        due("all", all.fewest(2), 12);
        for (int what = 0; what <= 2; what++) {
            due("no ring", told(points(12)).fewest(what), 0);
            due("no ring", told(points(12)).lightest(what), 0);
        }
        promise("11: LIGHTEST: of the least WEIGHT; of like ones the least number");
        due("the greater number, but lighter", told("point a 9;point b 8;" + lines("ab ab")).lightest(1), 2);
        due("alike", told("point a 3;point b 3;" + lines("ab ab")).lightest(1), 1);
        RingCutters many = told("point a;point b;point c;point d 3;" + lines("ad ad bd bd cd cd"));
        due("three of 1 as one of 3", many.lightest(1), 7);
        due("how many", many.lightest(0), 3);
        due("weight", many.lightest(2), 3);
        many.weigh(0, 2);
        due("one of 3, three of 4", many.lightest(1), 8);
        due("how many", many.lightest(0), 1);
        due("weight", many.lightest(2), 3);
        due("all", told(ALL_LOOPED.replace("point l", "point l 9")).lightest(2), 20);
        promise("10, 11: NONE: another what");
        for (int odd : ODD) {
            due("fewest " + odd, many.fewest(odd), NONE);
            due("lightest " + odd, many.lightest(odd), NONE);
            due("those " + odd, many.those(odd), NONE);
        }
        due("fewest 3", many.fewest(3), NONE);
        due("lightest 3", many.lightest(3), NONE);
        promise("10, 11: of one that went nothing is told");
        many.drop(3);
        due("fewest", many.fewest(1), 0);
        due("lightest", many.lightest(1), 0);
    }

    private static void those() {
        promise("12: CUTS of as few POINTS as FEWEST: none needed");
        due("one", told(points(12)).those(0), 1);
        due("in each", told(points(12)).those(1), 0);
        due("in some", told(points(12)).those(2), 0);
        promise("12: one alone");
        due("one", told(ALL_LOOPED).those(0), 1);
        due("in each", told(ALL_LOOPED).those(1), 4095);
        due("in some", told(ALL_LOOPED).those(2), 4095);
        promise("12: many, with none in each");
        due("many", told(ROUND).those(0), 12);
        due("in each", told(ROUND).those(1), 0);
        due("in some", told(ROUND).those(2), 4095);
        due("pairs", told(points(12) + lines("ab ab cd cd ef ef gh gh ij ij kl kl")).those(0), 64);
        promise("12: some in each, some in none");
        RingCutters x = told(points(5) + lines("aa bc bc cd cd"));
        due("one", x.those(0), 1);
        due("in each", x.those(1), 1 + 4);
        RingCutters y = told(points(5) + lines("aa bc bc bd"));
        due("two", y.those(0), 2);
        due("in each", y.those(1), 1);
        due("in some", y.those(2), 7);
        due("another", y.those(3), NONE);
    }

    private static void sparing() {
        promise("13: none of them of a set");
        RingCutters x = told(points(4) + lines(FOUR));
        int[] due = {3, 6, 5, 12, 3, 10, 9, NONE, 3, 6, 5, NONE, 3, NONE, NONE, NONE};
        for (int set = 0; set < 16; set++) {
            due("sparing " + set, x.sparing(set), due[set]);
        }
        promise("13: a cut of more, as the fewest are spared");
        due("three instead of one", told(points(4) + lines("ad ad bd bd cd cd")).sparing(8), 7);
        promise("13: NONE: there is none");
        due("a loop spared", told(points(2) + lines("aa")).sparing(1), NONE);
        due("no loop spared", told(points(2) + lines("aa")).sparing(2), 1);
        due("no ring, all spared", told(points(12)).sparing(4095), 0);
        promise("13: NONE: some of it are not THERE");
        for (int bit = 4; bit < 32; bit++) {
            due("bit " + bit, x.sparing(1 << bit), NONE);
        }
        x.drop(0);
        due("gone", x.sparing(1), NONE);
        due("gone and there", x.sparing(3), NONE);
        due("those there", x.sparing(2), 4);
    }

    private static void upTo() {
        promise("14: only POINTS 0 to p: the first, the last");
        RingCutters x = told(ALL_LOOPED);
        for (int p = 0; p < 12; p++) {
            due("upTo " + p, x.upTo(p), p + 1);
        }
        for (int p = 0; p < 12; p++) {
            due("a ring of all " + p, told(ROUND).upTo(p), p == 11 ? 1 : 0);
        }
        promise("14: of those THERE");
        x.drop(0);
        x.drop(11);
        due("0 went", x.upTo(0), 0);
        due("1", x.upTo(1), 1);
        due("10", x.upTo(10), 10);
        due("11 went", x.upTo(11), 10);
        promise("14: NONE: no such POINT told");
        for (int odd : ODD) {
            due("upTo " + odd, x.upTo(odd), NONE);
        }
        due("the next one", told(points(3)).upTo(3), NONE);
        due("the last one", told(points(3)).upTo(2), 0);
    }

    private static void rings() {
        promise("15: none, one, many");
        due("none", told(points(12)).rings(), 0);
        due("one", told(ROUND).rings(), 1);
        due("12 loops", told(ALL_LOOPED).rings(), 12);
        promise("15: of lines told again each other one");
        for (int n = 0; n <= 6; n++) {
            due("lines " + n, told(points(2) + times(n, "line a b;")).rings(), n * (n - 1) / 2);
        }
        due("a thick triangle", told(points(3) + lines("ab ab ab bc bc bc ca ca ca")).rings(), 27 + 9);
        due("a chord", told(points(4) + lines("ab bc cd da ac")).rings(), 3);
        due("a thick chord", told(points(4) + lines("ab bc cd da ac ac")).rings(), 1 + 2 + 2 + 1);
        due("a cube", told(points(8) + lines("ab bc cd da ef fg gh he ae bf cg dh")).rings(), 28);
        due("a wheel of ten", told(points(7) + lines("ab ac ad ae af ag bc cd de ef fg gb")).rings(), 6 * 5 + 1);
        promise("15: of those THERE");
        RingCutters x = told(points(5) + lines(FOUR + " ae be ce de"));
        x.drop(4);
        due("four", x.rings(), 7);
        x.drop(3);
        due("three", x.rings(), 1);
        x.drop(0);
        due("two", x.rings(), 0);
    }

    private static void shortest() {
        promise("16: of the fewest POINTS");
        due("one ahead of two", told(points(3) + lines("ab ab cc")).shortest(), 4);
        due("two ahead of three", told(points(5) + lines("ab bc ca de de")).shortest(), 24);
        due("three ahead of four", told(points(7) + lines("ab bc cd da ef fg ge")).shortest(), 112);
        due("all", told(ROUND).shortest(), 4095);
        promise("16: of like ones the least number");
        due("loops", told(points(3) + lines("cc bb")).shortest(), 2);
        due("the last two lines, not the first told", told(points(12) + lines("kl kl al al")).shortest(), 1 + 2048);
        due("the one with the least greatest", told(points(5) + lines("ae ed da bc cd db")).shortest(), 14);
        promise("16: 0: there is none");
        due("none", told(points(12) + lines("ab bc cd")).shortest(), 0);
        due("none", told("").shortest(), 0);
        RingCutters x = told(points(3) + lines("aa bb"));
        x.drop(0);
        due("of those there", x.shortest(), 2);
    }

    private static void packed() {
        promise("17: how many: none, one, twelve");
        due("none", told(points(12)).packed(), 0);
        due("one", told(ROUND).packed(), 1);
        due("twelve", told(ALL_LOOPED).packed(), 12);
        due("of rings with a point in common one", told(points(5) + lines("ab bc ca cd de ec")).packed(), 1);
        due("six of two", told(points(12) + lines("ab ab cd cd ef ef gh gh ij ij kl kl")).packed(), 6);
        due("four of three", told(points(12) + lines("ab bc ca de ef fd gh hi ig jk kl lj")).packed(), 4);
        due("less than a cut has", told(points(4) + lines(FOUR)).packed(), 1);
        promise("18: the least number by which the most can still be had");
        RingCutters x = told(points(6) + lines("ab bc ca ad bd ce ef fc"));
        due("not the least ring", x.pack(0), 11);
        due("what is left", x.pack(1), 52);
        due("the least of two", told(points(4) + lines("ab ab bc bc cd cd")).pack(0), 3);
        due("with it the other", told(points(4) + lines("ab ab bc bc cd cd")).pack(1), 12);
        due("a ring ahead of one around it", told(points(3) + lines("ab bc ca cc")).pack(0), 4);
        due("the least number, not the fewest points", told(points(5) + lines("ab bc ca ce ce")).pack(0), 7);
        promise("18: with those ahead");
        RingCutters y = told(points(12) + lines("ab ab cd cd ef ef gh gh ij ij kl kl"));
        for (int i = 0; i < 6; i++) {
            due("ring " + i, y.pack(i), 3 << 2 * i);
        }
        promise("18: NONE: none such");
        due("behind the last", y.pack(6), NONE);
        due("behind the last of none", told(points(2)).pack(0), NONE);
        for (int odd : ODD) {
            due("pack " + odd, y.pack(odd), NONE);
        }
        for (int i = 0; i < 12; i++) {
            due("loop " + i, told(ALL_LOOPED).pack(i), 1 << i);
        }
        due("a 13th", told(ALL_LOOPED).pack(12), NONE);
        y.drop(0);
        due("packed anew", y.pack(0), 12);
        due("packed anew", y.packed(), 5);
    }

    private static void nearOfOneRing() {
        promise("19: without RINGS nothing is taken");
        due("no points", told("").near(), 0);
        due("no lines", told(points(12)).near(), 0);
        due("a tree", told(points(5) + lines("ab bc cd ce")).near(), 0);
        promise("19: POINTS with one END or none go, one by one");
        RingCutters tail = told("point a 5;point b 5;point c;point d;point e;" + lines("ab ab bc cd de"));
        due("the tail is not asked", tail.near(), 2);
        bound(tail, 5, 1);
        // a goes first, or b and then a: four are left, with three ends each
        String four = "cd ce cf de df ef";
        due("the first alone", told(points(6) + lines(four)).near(), 16 + 32);
        bound(told(points(6) + lines(four)), 3, 2);
        due("the first behind the second", told(points(6) + lines(four + " ac ab")).near(), 16 + 32);
        bound(told(points(6) + lines(four + " ac ab")), 3, 2);
        promise("19: all but one at most have just two ENDS: none, one, two");
        RingCutters none = told("point a 4;point b 3;" + lines("ab ab"));
        due("none", none.near(), 2);
        bound(none, 3, 1);
        RingCutters one = told("point a 2;point b 6;" + lines("ab ab bb"));
        // of ring b (loop) and ring a b the least number is b: 6, then a goes
        due("one", one.near(), 2);
        bound(one, 6, 1);
        RingCutters two = told("point a 2;point b 4;" + lines("ab ab ab"));
        // 2/2 times (3 + 1 - 2)
        due("two", two.near(), 1);
        bound(two, 2, 1);
        // three ways from a to b: each ring has these two; 1 by 1 from each, a and b 9 less 2
        RingCutters ways = told("point a 9;point b 9;point c;point d;point e;" + lines("ac cb ad db ae eb"));
        due("two, and others", ways.near(), 8 + 16);
        bound(ways, 2, 1);
        // the same, but that a fourth ring a f has a alone
        RingCutters both = told("point a 9;point b 9;point c;point d;point e;point f 2;" + lines("ac cb ad db ae eb af af"));
        due("one, among others", both.near(), 8 + 16 + 32);
        bound(both, 4, 1);
        promise("19: of the one with the least number");
        // ring a b c is 7, ring d e is 24; c joins both
        RingCutters least = told("point a 3;point b 3;point c 4;point d 2;point e 2;" + lines("ab bc ca cd de ec"));
        // abc: a, b weigh 0, c 1; then cde: 1, c 0; a goes back, and b
        due("the least number", least.near(), 4);
        bound(least, 4, 1);
    }

    private static void nearOfPiles() {
        promise("19: POINTS with WEIGHT 0 go, the greatest number first");
        due("the least is given back first", told(ROUND).near(), 2048);
        due("two rings", told(points(6) + lines("ab bc ca de ef fd")).near(), 4 + 32);
        promise("19: from the top of the PILE down");
        // a b: b is on the pile first, then ring c d: d, c; given back: c, then a
        due("the later ones first", told(points(4) + lines("ab ab cd cd")).near(), 2 + 8);
        promise("19: given back if without it those still in the PILE are a CUT");
        due("all needed", told(ALL_LOOPED).near(), 4095);
        due("five, all lines", told(points(5) + lines(FOUR + " ae be ce de")).near(), 28);
        promise("19: a CUT of the NET, not of what was left");
        RingCutters x = told("point a;point b 2;point c 9;" + lines("ab ab bc bc"));
        // ring a b: a 0, b 1; ring b c: b 0; a goes back
        due("b alone", x.near(), 2);
        bound(x, 2, 1);
        // ring a b: a 0, b 2; ring b c: both 0; b, on top of c, goes back, as a and c are a cut
        RingCutters back = told("point a;point b 3;point c 2;" + lines("ab ab bc bc"));
        due("the top one, though it alone would be a cut", back.near(), 5);
        bound(back, 3, 1);
        promise("19: a weight that comes to 0 where it was taken as a fraction");
        RingCutters y = told("point a 2;point b 3;point c 4;point d 5;" + lines(FOUR));
        // 2/2 from each of three ends: a 0, b 1, c 2, d 3; then ring b c d: 1
        due("a and b", y.near(), 3);
        bound(y, 1 * 3 + 1, 1);
    }

    private static void bounds() {
        promise("20: the least of WEIGHT by (ENDS less 1)");
        // a has 4 ends, the others 3: 1/3 from each as often; a weighs 1 less 3/3, the rest 9 less 2/3
        RingCutters wheel = told("point a;point b 9;point c 9;point d 9;point e 9;" + lines("ab ac ad ae bc cd de eb"));
        // (8 + 1 - 5) times 1/3, then the ring b c d e: 9 less 2/3
        due("the middle and one", wheel.near(), 1 + 16);
        bound(wheel, 29, 3);
        // five round the middle: b has 2 by 2, a 5 by 4; then a 1 by 3 of what is left, with 7 lines, 5 points
        RingCutters five = told("point a 5;point b 2;point c 9;point d 9;point e 9;point f 9;" + lines("ab ac ad ae af bc cd de ef fb"));
        due("the middle and the light one", five.near(), 3);
        bound(five, 5 + 1, 1);
        promise("20: that least times (LINES and PARTS together, less POINTS)");
        RingCutters parts = told(points(8).replace(";", " 3;") + lines(FOUR + " ef eg eh fg fh gh"));
        bound(parts, 9, 1);
        promise("20: of RINGS once each");
        bound(told(ALL_LOOPED), 12, 1);
        bound(told(ALL_LOOPED.replace("point l", "point l 9")), 20, 1);
        bound(told(ROUND), 1, 1);
        promise("20: in least terms");
        bound(told(points(4) + lines(FOUR)), 3, 2);
        bound(told(points(5) + lines(FOUR + " ae be ce de")), 2, 1);
        bound(told("point a 2;point b 2;point c 2;point d 2;" + lines(FOUR)), 3, 1);
        promise("20: 0 by 1, if it is 0");
        bound(told(""), 0, 1);
        bound(told(points(12) + lines("ab cd")), 0, 1);
        promise("20: of what was asked ahead nothing stays");
        RingCutters x = told(points(4) + lines(FOUR));
        bound(x, 3, 2);
        x.part(0, 1);
        // a and b have two ends, ring a c d: all weights 1; what is left is one point without lines
        bound(x, 1, 1);
        due("near", x.near(), 8);
        RingCutters other = told(points(2) + lines("aa"));
        due("near", other.near(), 1);
        other.part(0, 0);
        other.join(1, 1);
        due("near, of another net", other.near(), 2);
        bound(other, 1, 1);
        promise("20: another what");
        for (int odd : ODD) {
            yes("bound " + odd, boundThrows(x, odd));
        }
        yes("bound 2", boundThrows(x, 2));
    }

    /** A call that throws, or asks in vain, changes nothing. */
    private static void nothingChanges() {
        promise("terms: a call that throws changes nothing");
        RingCutters x = told(points(4) + lines(FOUR));
        tell(x, "?");
        feed(x, "point");
        x.weigh(0, 5);
        String ahead = stateOf(x, 4);
        for (int odd : ODD) {
            pointThrows(x, odd, odd);
            pointThrows(x, odd, 0);
            pointThrows(x, 0, odd);
            boundThrows(x, odd);
            x.cuts(odd);
            x.sparing(odd);
            x.upTo(odd);
            x.pack(odd);
            x.now(odd);
            x.lines(odd, odd);
        }
        boundThrows(x, 2);
        pointThrows(x, 0, 4);
        yes("all is as ahead", ahead.equals(stateOf(x, 4)));
        due("undo", x.undo(), 0);
        due("weight", x.point(0, 0), 1);
        due("tape", x.now(7), 5);
    }

    public static void main(String[] args) {
        now();
        point();
        linesBetween();
        ringsTerm();
        cuts();
        fewestAndLightest();
        those();
        sparing();
        upTo();
        rings();
        shortest();
        packed();
        nearOfOneRing();
        nearOfPiles();
        bounds();
        nothingChanges();
        finish();
    }
}
