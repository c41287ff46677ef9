/** Terms 2 and promises 21 to 30: each sentence that names an edge, by a test of its own. */
public final class ChangeEdgesTest extends Checks {
    private static final String SIX_LOOPED = points(8) + lines("aa aa aa bb bb bb cc cc cc dd dd dd ee ee ee ff ff ff");

    private static RingCutters weighed(String weights, String pairs) {
        StringBuilder b = new StringBuilder();
        for (int p = 0; p < weights.length(); p++) {
            b.append("point ").append((char) ('a' + p)).append(weights.charAt(p)).append(';');
        }
        return told(b.toString().replaceAll("([a-l])([0-9])", "$1 $2") + lines(pairs));
    }

    // ---- 21, 22

    private static void ruleZero() {
        promise("21: RULE 0: a POINT with a LOOP goes, it is TAKEN");
        RingCutters x = told(points(12) + lines("ll ll kk ak"));
        due("the least point with a loop", x.shrink(), 10);
        due("taken", x.now(3), 1 << 10);
        due("there", x.now(1), 4095 - (1 << 10));
        due("its lines went", x.now(2), 2);
        promise("21: RULE 0 ahead of the others");
        RingCutters y = told(points(4) + lines("bc bc bc dd"));
        due("ahead of rule 1 and 2", y.shrink(), 3);
        promise("21: a STEP of RULE 0 at POINT 0 answers 0 and is an act");
        RingCutters z = told(points(1) + lines("aa"));
        due("shrink", z.shrink(), 0);
        due("acts", z.now(6), 1);
        due("undo", z.undo(), 0);
        due("loops", z.lines(0, 0), 1);
    }

    private static void ruleOne() {
        promise("21: RULE 1: a POINT with one END or none goes");
        RingCutters x = told(points(4) + lines("bc cd db ad"));
        due("one end", x.shrink(), 16);
        due("not taken", x.now(3), 0);
        due("lines", x.now(2), 3);
        due("none", told(points(12)).shrink(), 16);
        RingCutters y = told(points(3) + lines("ab ab"));
        due("two ends: not by rule 1", y.shrink(), 16 + 2);
        due("two ends: by rule 3", y.shrink(), 48);
        promise("21: RULE 1 ahead of RULE 2");
        due("tip", told(points(4) + lines("ab ab ab cd")).shrink(), 16 + 2);
        promise("21: the greatest POINT of RULE 1");
        due("last", told(points(12) + lines("ab bc cd de ef fg gh hi ij jk ka")).shrink(), 16 + 11);
    }

    private static void ruleTwo() {
        promise("21: RULE 2: more than two LINES between them, all but two go");
        for (int n = 3; n <= 6; n++) {
            RingCutters x = told(points(2) + times(n, "line b a;"));
            due("shrink " + n, x.shrink(), 32);
            due("lines " + n, x.lines(0, 1), 2);
            due("all lines " + n, x.now(2), 2);
            due("there " + n, x.now(1), 3);
            due("no rule 2 of two lines", x.shrink(), 48);
        }
        promise("21: RULE 2: the least lesser one, then the least other one");
        RingCutters y = told(points(4) + lines("bc bc bc ad ad ad ab cd"));
        due("the least lesser one", y.shrink(), 32);
        due("lines", y.lines(0, 3), 2);
        due("lines", y.lines(1, 2), 3);
        RingCutters z = told(points(4) + lines("bd bd bd bc bc bc ac ad ac ad"));
        due("the lesser one", z.shrink(), 33);
        due("the least other one", z.lines(1, 2), 2);
        due("not the other", z.lines(1, 3), 3);
        due("then the other", z.shrink(), 33);
        due("then the other", z.lines(1, 3), 2);
        promise("21: RULE 2 ahead of RULE 3");
        due("rule 2", told(points(4) + lines("cd cd cd ac ab bd")).shrink(), 32 + 2);
    }

    /** Four points in a ring a b c d, with two lines more each at b, c and d, so that a alone has two ends. */
    private static RingCutters oneOfTwoEnds(int a, int b, int d) {
        return weighed("" + a + b + "9" + d, "ab bc bc cd cd da");
    }

    private static void ruleThree() {
        promise("21: RULE 3: whose WEIGHT is not below that of one of those");
        due("below both", oneOfTwoEnds(4, 5, 5).shrink(), NONE);
        due("as the one", oneOfTwoEnds(5, 5, 9).shrink(), 48);
        due("as the other", oneOfTwoEnds(5, 9, 5).shrink(), 48);
        due("above the one", oneOfTwoEnds(5, 4, 9).shrink(), 48);
        due("above the other", oneOfTwoEnds(5, 9, 4).shrink(), 48);
        due("above both", oneOfTwoEnds(9, 1, 1).shrink(), 48);
        promise("21: RULE 3: with just two ENDS");
        due("three ends each", told(points(4) + lines(FOUR)).shrink(), NONE);
        due("the one of two ends, though heavy ones have three", weighed("9919", "ab ac ad bc bd").shrink(), 48 + 3);
        promise("21: RULE 3: a LINE comes between these two");
        RingCutters x = oneOfTwoEnds(5, 5, 5);
        due("shrink", x.shrink(), 48);
        due("line", x.lines(1, 3), 1);
        due("lines", x.now(2), 5);
        due("not taken", x.now(3), 0);
        due("gone", x.lines(0, 1), NONE);
        RingCutters middle = weighed("1219", "ab bc ad ad cd cd ac");
        due("b, between a and c", middle.shrink(), 48 + 1);
        due("line", middle.lines(0, 2), 2);
        due("no loop", middle.lines(0, 0), 0);
        due("the other weight alone is not above", weighed("3219", "ab bc ad ad cd cd ac").shrink(), 48 + 1);
        due("the first weight alone is not above", weighed("1239", "ab bc ad ad cd cd ac").shrink(), 48 + 1);
        due("both are above", weighed("3239", "ab bc ad ad cd cd ac").shrink(), NONE);
        promise("21: RULE 3: a LINE comes to those that are there");
        RingCutters y = told(points(3) + lines("ab bc ca bc"));
        due("shrink", y.shrink(), 48);
        due("three lines", y.lines(1, 2), 3);
        due("then rule 2", y.shrink(), 32 + 1);
        promise("21: RULE 3: a LOOP, if they are one");
        RingCutters z = weighed("34", "ab ab");
        due("not the lighter one", z.shrink(), 48 + 1);
        due("loop", z.lines(0, 0), 1);
        due("ends", z.point(0, 1), 2);
        due("taken then", z.shrink(), 0);
        promise("21: RULE 3: a point of six ENDS, a NET of 20 LINES");
        RingCutters six = told(points(4) + lines("ab ab bc bc bd bd cd cd"));
        due("six ends", six.point(1, 1), 6);
        due("shrink", six.shrink(), 48);
        due("a loop", six.lines(1, 1), 1);
        due("six ends", six.point(1, 1), 6);
        RingCutters full = told(points(12) + lines("ab bc cd de ef fg gh hi ij jk kl la bc cd de ef fg gh hi ij"));
        due("lines", full.now(2), 20);
        due("shrink", full.shrink(), 48);
        due("lines", full.now(2), 19);
        due("the line that came", full.lines(11, 1), 1);
    }

    private static void shrinkKeepsLightest() {
        promise("21: WEIGHT of TAKEN and LIGHTEST of what is left is that of LIGHTEST ahead");
        String[] nets = {"ab bc ca ad de ef fd cf bf", "aa ab ab ab bc cd de ef fa", "ab ac ad bc bd cd de ef fd", "ab ab bc bc cd cd de de ef ef fa fa"};
        String[] weights = {"111111", "123456", "654321", "919191", "329954"};
        for (String net : nets) {
            for (String w : weights) {
                RingCutters x = weighed(w, net);
                int due = x.lightest(2);
                for (int i = 0; i < 30 && x.shrink() != NONE; i++) {
                    int taken = 0;
                    for (int p = 0; p < 6; p++) {
                        taken += (x.now(3) >> p & 1) * (w.charAt(p) - '0');
                    }
                    due("lightest of " + net + " " + w, taken + x.lightest(2), due);
                }
                due("none can be used", x.shrink(), NONE);
            }
        }
    }

    private static void shrinkAll() {
        promise("22: how many: none, the most");
        due("none of an empty net", told("").shrinkAll(), 0);
        due("none of four joined", told(points(4) + lines(FOUR)).shrinkAll(), 0);
        due("twelve alone", told(points(12)).shrinkAll(), 12);
        RingCutters x = told(points(12) + lines("ab ab ab cd cd cd ef ef ef gh gh gh ij ij ij kl kl kl"));
        due("rule 2 and 3 and 0 of six", x.shrinkAll(), 18);
        due("taken", x.now(3), 2 + 8 + 32 + 128 + 512 + 2048);
        due("one act", x.now(6), 1);
        due("undo", x.undo(), 0);
        due("lines", x.now(2), 18);
        due("not taken", x.now(3), 0);
        promise("22: one STEP is an act, too");
        RingCutters single = told(points(5) + lines(FOUR));
        due("the point alone", single.shrinkAll(), 1);
        due("one act", single.now(6), 1);
        due("undo", single.undo(), 0);
        due("there", single.now(1), 31);
        promise("22: as many as shrink() has");
        RingCutters all = weighed("329954", "ab ab ab bc cd de ef fa ad");
        RingCutters one = weighed("329954", "ab ab ab bc cd de ef fa ad");
        int steps = all.shrinkAll();
        for (int i = 0; i < steps; i++) {
            yes("a step", one.shrink() != NONE);
        }
        due("no more", one.shrink(), NONE);
        due("there", one.now(1), all.now(1));
        due("taken", one.now(3), all.now(3));
        promise("22: 0 is no act");
        due("again", all.shrinkAll(), 0);
        due("acts", all.now(6), 1);
        due("shrink", all.shrink(), NONE);
        due("acts", all.now(6), 1);
    }

    // ---- 23 to 26

    private static void drop() {
        promise("23: how many are THERE: down to 0, which is an act");
        RingCutters x = told(points(2) + lines("aa ab ab bb"));
        due("drop", x.drop(0), 1);
        due("its lines went, its loops", x.now(2), 1);
        due("not taken", x.now(3), 0);
        due("drop", x.drop(1), 0);
        due("acts", x.now(6), 2);
        due("lines", x.now(2), 0);
        promise("23: NONE: it is not THERE");
        due("gone", x.drop(0), NONE);
        due("gone", x.drop(1), NONE);
        due("not told", x.drop(2), NONE);
        due("acts", x.now(6), 2);
        RingCutters y = told(points(12) + lines("aa"));
        for (int odd : ODD) {
            due("drop " + odd, y.drop(odd), NONE);
        }
        due("the last", y.drop(11), 11);
        due("shrink", y.shrink(), 0);
        due("taken", y.drop(0), NONE);
        due("taken stays", y.now(3), 1);
    }

    private static void join() {
        promise("24: how many there are between them, they may be one");
        RingCutters x = told(points(3));
        for (int n = 1; n <= 6; n++) {
            due("join", x.join(n % 2, 1 - n % 2), n);
        }
        for (int n = 1; n <= 3; n++) {
            due("loop", x.join(2, 2), n);
        }
        promise("24: -2: one would have more than 6 ENDS");
        String ahead = stateOf(x, 3);
        due("both", x.join(0, 1), -2);
        due("the first", x.join(0, 2), -2);
        due("the last", x.join(2, 2), -2);
        yes("nothing changes", ahead.equals(stateOf(x, 3)));
        RingCutters five = told(points(4) + lines("ab ab ab ab ab"));
        due("a loop at one of five", five.join(0, 0), -2);
        due("a line at one of five", five.join(0, 2), 1);
        due("a line at one of six, the second", five.join(2, 0), -2);
        RingCutters four = told(points(2) + lines("ab ab ab ab"));
        due("a loop at one of four", four.join(1, 1), 1);
        due("then none", four.join(1, 0), -2);
        promise("24: -2: there are 20 LINES");
        RingCutters y = told(SIX_LOOPED + lines("gh"));
        due("the 20th", y.join(6, 6), 1);
        due("lines", y.now(2), 20);
        due("a 21st", y.join(7, 7), -2);
        due("a 21st", y.join(6, 7), -2);
        due("a 21st, of full ones", y.join(0, 1), -2);
        due("acts", y.now(6), 1);
        y.drop(0);
        due("17, the 18th", y.join(7, 7), 1);
        promise("24: NONE: they are not THERE, even with 20 LINES, at a full one");
        RingCutters z = told(SIX_LOOPED + lines("gg gg"));
        for (int odd : ODD) {
            due("join", z.join(odd, 0), NONE);
            due("join", z.join(0, odd), NONE);
            due("join", z.join(odd, odd), NONE);
        }
        due("not told", z.join(8, 0), NONE);
        z.drop(7);
        due("gone", z.join(0, 7), NONE);
        due("gone", z.join(7, 7), NONE);
        due("acts", z.now(6), 1);
        promise("24: what was asked ahead is asked anew");
        RingCutters fresh = told(points(2));
        due("rings", fresh.rings() + fresh.packed() + fresh.near() + fresh.fewest(0), 0);
        due("loop", fresh.join(1, 1), 1);
        due("cut", fresh.fewest(1), 2);
        due("packed", fresh.packed(), 1);
        due("near", fresh.near(), 2);
        bound(fresh, 1, 1);
    }

    private static void part() {
        promise("25: how many are left: down to 0, which is an act");
        RingCutters x = told(points(3) + lines("ab ab ab ab ab ab cc cc cc"));
        for (int n = 5; n >= 0; n--) {
            due("part", x.part(n % 2, 1 - n % 2), n);
        }
        for (int n = 2; n >= 0; n--) {
            due("loop", x.part(2, 2), n);
        }
        due("acts, eight at most", x.now(6), 8);
        promise("25: NONE: there is none");
        RingCutters y = told(points(3) + lines("ab cc"));
        due("no line", y.part(0, 2), NONE);
        due("no loop", y.part(0, 0), NONE);
        due("part", y.part(1, 0), 0);
        due("none left", y.part(1, 0), NONE);
        due("none left", y.part(0, 1), NONE);
        due("acts", y.now(6), 1);
        due("points stay", y.now(1), 7);
        promise("25: NONE: they are not THERE");
        for (int odd : ODD) {
            due("part", y.part(odd, 2), NONE);
            due("part", y.part(2, odd), NONE);
            due("part", y.part(odd, odd), NONE);
        }
        due("a pair that is the place of another", told(points(12) + lines("ll")).part(10, 23), NONE);
        y.drop(2);
        due("gone", y.part(2, 2), NONE);
        due("acts", y.now(6), 2);
    }

    private static void weigh() {
        promise("26: 0; 1: it has that");
        RingCutters x = told(points(2) + lines("ab ab"));
        due("the least, it has that", x.weigh(0, 1), 1);
        due("acts", x.now(6), 0);
        for (int w = 2; w <= 9; w++) {
            due("weigh", x.weigh(0, w), 0);
            due("weight", x.point(0, 0), w);
            due("it has that", x.weigh(0, w), 1);
        }
        due("acts", x.now(6), 8);
        due("the other stays", x.point(1, 0), 1);
        due("lightest", x.lightest(1), 2);
        promise("26: NONE: no such ones: a WEIGHT below 1, above 9");
        due("0", x.weigh(0, 0), NONE);
        due("10", x.weigh(0, 10), NONE);
        for (int odd : ODD) {
            due("weight " + odd, x.weigh(0, odd), NONE);
            due("point " + odd, x.weigh(odd, 5), NONE);
        }
        due("not told", x.weigh(2, 5), NONE);
        x.drop(0);
        due("gone", x.weigh(0, 5), NONE);
        due("gone, with the weight it had", x.weigh(0, 9), NONE);
        due("of another weight and gone", x.weigh(0, 10), NONE);
    }

    // ---- 27

    /** The draws as the document tells them, by long numbers: nothing wraps but by the mask. */
    private static int[] draws(int seed, int... of) {
        long s = seed & 0xffffffffL;
        int[] drawn = new int[of.length];
        for (int i = 0; i < of.length; i++) {
            s = (s * 1103515245L + 12345L) & 0xffffffffL;
            drawn[i] = (int) ((s >> 8) % of[i]);
        }
        return drawn;
    }

    /** A seed by which the first DEED draws these; kinds of 3 and more are alike. */
    private static int seedOf(int told, int kind, int p, int other) {
        for (int seed = -3; seed < 1_000_000; seed++) {
            int[] d = draws(seed, 8, told, kind == 1 ? 9 : told);
            if (Math.min(d[0], 3) == kind && d[1] == p && (kind == 0 || d[2] == other)) {
                return seed;
            }
        }
        throw new IllegalStateException("no such seed");
    }

    private static void deedsThatGo() {
        promise("27: a draw of 8: 0: a draw of POINTS: it goes");
        RingCutters x = told(points(3) + lines("ab bc ca cc"));
        due("done", x.drawn(1, seedOf(3, 0, 2, 0)), 1);
        due("there", x.now(1), 3);
        due("not taken", x.now(3), 0);
        due("lines", x.now(2), 1);
        due("act", x.now(6), 1);
        promise("27: (all that were told): one that went is left");
        due("left", x.drawn(1, seedOf(3, 0, 2, 0)), 0);
        due("no act", x.now(6), 1);
        promise("27: 1: a draw of POINTS, of 9 (and 1): that is its WEIGHT");
        due("the greatest", x.drawn(1, seedOf(3, 1, 0, 8)), 1);
        due("weight", x.point(0, 0), 9);
        due("is so", x.drawn(1, seedOf(3, 1, 0, 8)), 0);
        due("the least", x.drawn(1, seedOf(3, 1, 0, 0)), 1);
        due("weight", x.point(0, 0), 1);
        due("is so", x.drawn(1, seedOf(3, 1, 0, 0)), 0);
        due("went", x.drawn(1, seedOf(3, 1, 2, 4)), 0);
        due("acts", x.now(6), 3);
    }

    private static void deedsOfLines() {
        promise("27: 2: a draw of POINTS, another one: a LINE between them goes");
        RingCutters x = told(points(3) + lines("ab ab cc"));
        due("done", x.drawn(1, seedOf(3, 2, 1, 0)), 1);
        due("lines", x.lines(0, 1), 1);
        due("a loop", x.drawn(1, seedOf(3, 2, 2, 2)), 1);
        due("loops", x.lines(2, 2), 0);
        due("no loop", x.drawn(1, seedOf(3, 2, 2, 2)), 0);
        due("no line", x.drawn(1, seedOf(3, 2, 1, 2)), 0);
        promise("27: else two such draws: a LINE comes between them");
        due("done", x.drawn(1, seedOf(3, 3, 1, 2)), 1);
        due("lines", x.lines(1, 2), 1);
        due("a loop", x.drawn(1, seedOf(3, 3, 0, 0)), 1);
        due("loops", x.lines(0, 0), 1);
        promise("27: what can't be is left: one that went");
        x.drop(2);
        due("first", x.drawn(1, seedOf(3, 3, 2, 0)), 0);
        due("second", x.drawn(1, seedOf(3, 3, 0, 2)), 0);
        due("both", x.drawn(1, seedOf(3, 3, 2, 2)), 0);
        due("a line of it", x.drawn(1, seedOf(3, 2, 1, 2)), 0);
        promise("27: what can't be is left: more than 6 ENDS");
        RingCutters six = told(points(3) + lines("aa aa ab bc bc"));
        due("a loop at five", six.drawn(1, seedOf(3, 3, 0, 0)), 0);
        due("a line at five", six.drawn(1, seedOf(3, 3, 2, 0)), 1);
        due("a line at six", six.drawn(1, seedOf(3, 3, 0, 1)), 0);
        due("a line at six", six.drawn(1, seedOf(3, 3, 1, 0)), 0);
        promise("27: what can't be is left: a 21st LINE");
        RingCutters full = told(SIX_LOOPED + lines("gg"));
        due("the 20th", full.drawn(1, seedOf(8, 3, 7, 7)), 1);
        due("a 21st", full.drawn(1, seedOf(8, 3, 7, 7)), 0);
        due("lines", full.now(2), 20);
    }

    private static void seedsThatWrap() {
        promise("27: s becomes s * 1103515245 + 12345 (an int, wrapping), the draw is (s >>> 8) % n");
        int[] seeds = {0, 1, -1, 12345, -12345, Integer.MAX_VALUE, Integer.MIN_VALUE, 1 << 30, 0x80000001, -1103515245};
        for (int seed : seeds) {
            int[] d = draws(seed, 8, 5, 5);
            int[] w = draws(seed, 8, 5, 9);
            RingCutters x = told(points(5).replace(";", " 5;") + times(3, lines("ab bc cd de ea")));
            RingCutters y = told(points(5).replace(";", " 5;") + times(3, lines("ab bc cd de ea")));
            y.drawn(1, seed);
            if (d[0] == 0) {
                x.drop(d[1]);
            } else if (d[0] == 1) {
                x.weigh(w[1], w[2] + 1);
            } else if (d[0] == 2) {
                x.part(d[1], d[2]);
            } else {
                x.join(d[1], d[2]);
            }
            yes("seed " + seed, stateOf(x, 5).equals(stateOf(y, 5)));
        }
    }

    /** The second DEED goes on with the seed where the first has left it. */
    private static void deedsOneAfterAnother() {
        promise("27: DEEDS one after the other by one seed");
        for (int seed = -40; seed < 40; seed++) {
            RingCutters all = told(points(4) + lines(FOUR));
            RingCutters each = told(points(4) + lines(FOUR));
            int s = seed;
            int done = 0;
            for (int i = 0; i < 60; i++) {
                done += each.drawn(1, s);
                int kind = draws(s, 8)[0];
                for (int k = kind == 0 ? 2 : 3; k > 0; k--) {
                    s = s * 1103515245 + 12345;
                }
            }
            due("done by seed " + seed, all.drawn(60, seed), done);
            due("there", all.now(1), each.now(1));
            due("lines", all.now(2), each.now(2));
            due("weight", all.now(5), each.now(5));
        }
    }

    private static void drawn() {
        promise("27: n from 1 to 60");
        RingCutters x = told(points(4) + lines(FOUR));
        String ahead = stateOf(x, 4);
        due("0", x.drawn(0, 5), NONE);
        due("61", x.drawn(61, 5), NONE);
        for (int odd : ODD) {
            if (odd < 1 || odd > 60) {
                due("n " + odd, x.drawn(odd, 5), NONE);
            }
        }
        yes("nothing changes", ahead.equals(stateOf(x, 4)));
        yes("1", x.drawn(1, seedOf(4, 1, 0, 8)) == 1);
        yes("60", x.drawn(60, 5) > 0);
        due("two acts", x.now(6), 2);
        promise("27: without POINTS none is done");
        RingCutters none = new RingCutters();
        for (int seed = -5; seed < 5; seed++) {
            due("drawn", none.drawn(60, seed), 0);
        }
        due("no act", none.now(6), 0);
        promise("27: all told, none THERE");
        RingCutters gone = told(points(1));
        gone.drop(0);
        due("drawn", gone.drawn(60, 9), 0);
        due("acts", gone.now(6), 1);
        promise("27: one POINT, every draw is it");
        RingCutters one = told(points(1));
        due("three loops", one.drawn(1, seedOf(1, 3, 0, 0)) + one.drawn(1, seedOf(1, 3, 0, 0)) + one.drawn(1, seedOf(1, 3, 0, 0)), 3);
        due("no fourth", one.drawn(1, seedOf(1, 3, 0, 0)), 0);
        due("loops", one.lines(0, 0), 3);
    }

    // ---- 28 to 30

    private static void undoOfEachKind() {
        promise("28: each kind of act is undone whole");
        for (int kind = 0; kind < 8; kind++) {
            RingCutters x = told("point a 2;point b;point c 3;point d;" + lines("ab bc ca ca ca cc ad"));
            x.weigh(3, 7);
            String ahead = stateOf(x, 4);
            due("acts of kind " + kind, actOf(x, kind), 1);
            due("acts", x.now(6), 2);
            no("it changed", ahead.equals(stateOf(x, 4)));
            due("undo", x.undo(), 1);
            yes("as it was, kind " + kind, ahead.equals(stateOf(x, 4)));
            due("undo", x.undo(), 0);
            due("undo", x.undo(), NONE);
        }
    }

    private static int actOf(RingCutters x, int kind) {
        switch (kind) {
            case 0: return x.shrink() == 2 ? 1 : 0;
            case 1: return x.drop(2) == 3 ? 1 : 0;
            case 2: return x.part(0, 1) == 0 ? 1 : 0;
            case 3: return x.join(1, 1) == 1 ? 1 : 0;
            case 4: return x.weigh(1, 9) == 0 ? 1 : 0;
            case 5: return x.shrinkAll() == 4 ? 1 : 0;
            case 6: return x.drawn(1, seedOf(4, 0, 1, 0)) == 1 ? 1 : 0;
            default: return x.part(0, 2) == 2 ? 1 : 0;
        }
    }

    private static void whatIsNoAct() {
        promise("28: what was refused, or came to nothing, is not undone");
        RingCutters x = told(points(4) + lines(FOUR));
        x.weigh(0, 5);
        String ahead = stateOf(x, 4);
        due("shrink", x.shrink(), NONE);
        due("shrinkAll", x.shrinkAll(), 0);
        due("drop", x.drop(4), NONE);
        due("part", x.part(0, 0), NONE);
        due("part", x.part(0, 4), NONE);
        due("join", x.join(0, 4), NONE);
        due("weigh", x.weigh(0, 5), 1);
        due("weigh", x.weigh(0, 10), NONE);
        due("drawn", x.drawn(0, 1), NONE);
        due("drawn", x.drawn(1, seedOf(4, 2, 0, 0)), 0);
        no("image", x.image(2));
        no("restore", x.restore(0));
        due("net", tell(x, "?") < 0 ? 1 : 0, 1);
        tell(x, "");
        due("a net is no act", x.now(6), 0);
        due("undo", x.undo(), NONE);
        RingCutters y = told(points(4) + lines(FOUR));
        y.weigh(0, 5);
        for (int round = 0; round < 20; round++) {
            y.shrink();
            y.shrinkAll();
            y.drop(-1);
            y.part(0, 0);
            y.join(0, 9);
            y.weigh(0, 5);
            y.drawn(61, 1);
            y.drawn(1, seedOf(4, 2, 0, 0));
            y.image(1);
            y.restore(2);
        }
        yes("as it was", ahead.equals(stateOf(y, 4)));
        due("undo", y.undo(), 0);
        due("weight", y.point(0, 0), 1);
        promise("28: join() that was -2 is no act");
        RingCutters z = told(points(2) + lines("aa aa aa"));
        due("join", z.join(0, 1), -2);
        due("undo", z.undo(), NONE);
    }

    private static void eightActs() {
        promise("28: 8 at most are kept");
        for (int acts = 7; acts <= 30; acts++) {
            RingCutters x = told(points(1));
            for (int i = 1; i <= acts; i++) {
                x.weigh(0, 1 + i % 9);
                due("acts", x.now(6), Math.min(8, i));
            }
            int kept = Math.min(8, acts);
            for (int i = 1; i <= kept; i++) {
                due("a refused act takes no place", x.drop(1) + x.join(0, 1) + x.part(0, 0) + x.weigh(0, 10), -4);
                due("undo " + i + " of " + acts, x.undo(), kept - i);
                due("weight", x.point(0, 0), 1 + (acts - i) % 9);
            }
            due("undo", x.undo(), NONE);
            due("acts", x.now(6), 0);
        }
        promise("28: acts behind an undo");
        RingCutters y = told(points(1));
        for (int w = 2; w <= 9; w++) {
            y.weigh(0, w);
        }
        due("undo", y.undo(), 7);
        due("undo", y.undo(), 6);
        y.weigh(0, 1);
        due("acts", y.now(6), 7);
        y.weigh(0, 9);
        y.weigh(0, 2);
        due("acts", y.now(6), 8);
        int[] due = {9, 1, 7, 6, 5, 4, 3, 2};
        for (int i = 0; i < 8; i++) {
            due("undo", y.undo(), 7 - i);
            due("weight", y.point(0, 0), due[i]);
        }
        due("undo", y.undo(), NONE);
        promise("28: what is asked behind an undo is asked anew");
        RingCutters z = told(points(3) + lines("ab bc ca"));
        z.part(0, 1);
        due("rings", z.rings() + z.packed() + z.near() + z.fewest(0), 0);
        due("undo", z.undo(), 0);
        due("near", z.near(), 4);
        due("packed", z.packed(), 1);
        due("fewest", z.fewest(1), 1);
    }

    private static void images() {
        promise("29, 30: true; false: no such one");
        RingCutters x = told(TRIANGLE);
        for (int odd : ODD) {
            no("image " + odd, x.image(odd));
            no("restore " + odd, x.restore(odd));
        }
        no("image 2", x.image(2));
        promise("30: nothing is kept there");
        no("restore 0", x.restore(0));
        no("restore 1", x.restore(1));
        yes("image 1", x.image(1));
        no("restore 0", x.restore(0));
        x.weigh(0, 9);
        no("restore 0", x.restore(0));
        due("a refused restore leaves the acts", x.now(6), 1);
        yes("image 0", x.image(0));
        promise("30: it is as kept in place k");
        x.drop(0);
        yes("restore 1", x.restore(1));
        due("weight", x.point(0, 0), 2);
        yes("restore 0", x.restore(0));
        due("weight", x.point(0, 0), 9);
        promise("29: kept anew in the same place, the other stays");
        x.drop(1);
        yes("image 0", x.image(0));
        x.drop(2);
        yes("restore 0", x.restore(0));
        due("there", x.now(1), 5);
        yes("restore 1", x.restore(1));
        due("there", x.now(1), 7);
        promise("29: later changes do not reach what is kept");
        x.drop(0);
        x.shrinkAll();
        yes("restore 1", x.restore(1));
        due("there", x.now(1), 7);
        due("lines", x.now(2), 3);
        due("taken", x.now(3), 0);
        promise("29: TAKEN and those that went are kept");
        RingCutters y = told(points(3) + lines("aa bc"));
        y.shrink();
        y.drop(1);
        yes("image", y.image(0));
        tell(y, TRIANGLE);
        due("what is asked of one net", y.fewest(1) + y.packed() + y.near(), 1 + 1 + 2);
        yes("restore", y.restore(0));
        due("is not told of the one kept", y.fewest(1) + y.packed() + y.near(), 0);
        due("told", y.now(0), 3);
        due("there", y.now(1), 4);
        due("taken", y.now(3), 1);
    }

    private static void restore() {
        promise("30: the tape, what fault() tells, stays");
        RingCutters x = told(TRIANGLE);
        yes("image", x.image(0));
        tell(x, "point a 0;");
        feed(x, "point q 6;");
        yes("restore", x.restore(0));
        due("fault", x.fault(), 2);
        due("tape", x.now(7), 10);
        due("net", x.net(), 1);
        due("weight", x.now(5), 6);
        due("fault", x.fault(), 0);
        promise("30: nothing can be undone");
        x.weigh(0, 1);
        yes("restore", x.restore(0));
        due("acts", x.now(6), 0);
        due("undo", x.undo(), NONE);
        due("there", x.now(1), 7);
        x.weigh(0, 9);
        due("undo", x.undo(), 0);
        due("weight", x.point(0, 0), 2);
        promise("29: an image is no act and leaves the acts");
        x.weigh(0, 9);
        yes("image", x.image(1));
        due("acts", x.now(6), 1);
        due("undo", x.undo(), 0);
        due("weight", x.point(0, 0), 2);
        yes("an undo leaves what is kept", x.restore(1));
        due("weight", x.point(0, 0), 9);
        promise("29: an image of a NET without POINTS");
        RingCutters y = new RingCutters();
        yes("image", y.image(0));
        tell(y, TRIANGLE);
        yes("restore", y.restore(0));
        due("points", y.now(0), 0);
        due("upTo", y.upTo(0), NONE);
        promise("30: what a fault leaves is kept");
        tell(y, TRIANGLE);
        tell(y, "point a;point b;?");
        yes("image", y.image(1));
        y.drop(0);
        yes("restore", y.restore(1));
        due("points", y.now(0), 3);
    }

    private static void manyCalls() {
        promise("512 calls on one object");
        String net = points(12) + lines("ab bc cd de ef fg gh hi ij jk kl la ag bh ci dj ek fl");
        RingCutters x = told(net);
        yes("image", x.image(0));
        int calls = net.length() / 20 + 6;
        for (int i = 0; calls < 500; i++, calls += 6) {
            int p = i % 12;
            due("join", x.join(p, p), 1);
            due("shortest", x.shortest(), 1 << p);
            due("without it, no cut", x.cuts(4095 - (1 << p)), 0);
            due("near is a cut", x.cuts(x.near()), 1);
            due("undo", x.undo(), 0);
        }
        yes("restore", x.restore(0));
        due("lines", x.now(2), 18);
        due("acts", x.now(6), 0);
    }

    public static void main(String[] args) {
        ruleZero();
        ruleOne();
        ruleTwo();
        ruleThree();
        shrinkKeepsLightest();
        shrinkAll();
        drop();
        join();
        part();
        weigh();
        deedsThatGo();
        deedsOfLines();
        seedsThatWrap();
        deedsOneAfterAnother();
        drawn();
        undoOfEachKind();
        whatIsNoAct();
        eightActs();
        images();
        restore();
        manyCalls();
        finish();
    }
}
