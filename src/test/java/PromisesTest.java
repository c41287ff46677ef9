/** Every promise of the document by answers worked out by hand: ordinary inputs, edges, wrong inputs. */
public final class PromisesTest extends Checks {
    // ---- the promises

    private static void newObject() {
        RingCutters x = new RingCutters();
        for (int what = 0; what < 8; what++) {
            due("now " + what, x.now(what), 0);
        }
        due("fault", x.fault(), 0);
        due("undo", x.undo(), NONE);
        due("NONE", RingCutters.NONE, -1);
        due("cuts", x.cuts(0), 1);
        due("net of an empty tape", x.net(), 0);
        no("restore", x.restore(0));
    }

    private static void feed() {
        RingCutters x = new RingCutters();
        for (int i = 1; i <= 32; i++) {
            due("feed", x.feed(-1, 2, Integer.MIN_VALUE, 4, Integer.MAX_VALUE), 20 * i);
        }
        due("feed beyond 640", x.feed(0, 0, 0, 0, 0), NONE);
        due("tape", x.now(7), 640);
        yes("end", x.end(621));
        due("feed beyond 640 by one", x.feed(0, 0, 0, 0, 0), NONE);
        due("tape", x.now(7), 621);
        yes("end", x.end(620));
        due("feed to 640", x.feed(0, 0, 0, 0, 0), 640);
        RingCutters y = new RingCutters();
        // "point a 5;point b ; " and then "point a " with a sign that is none of the tokens'
        due("feed", y.feed(0x706f696e, 0x74206120, 0x353b706f, 0x696e7420, 0x62203b20), 20);
        due("net", y.net(), 2);
        due("weight", y.now(5), 6);
        due("feed", y.feed(0x706f696e, 0x74206120, 0xe93b0000, 0, 0), 20);
        due("net of a sign above 127", y.net(), -9);
        due("fault", y.fault(), 1);
    }

    private static void end() {
        RingCutters x = new RingCutters();
        yes("end at 0", x.end(0));
        no("end behind an empty tape", x.end(1));
        feed(x, "point a;point b;");
        no("end below 0", x.end(-1));
        no("end behind the tape", x.end(17));
        no("end far behind", x.end(Integer.MAX_VALUE));
        no("end far below", x.end(Integer.MIN_VALUE));
        due("tape", x.now(7), 16);
        yes("end at the end", x.end(16));
        yes("end", x.end(8));
        no("end at what has gone", x.end(9));
        due("net", x.net(), 1);
        due("points", x.now(0), 1);
    }

    private static void net() {
        RingCutters x = told(TRIANGLE);
        x.shrinkAll();
        due("taken", x.now(3), 2);
        yes("image", x.image(0));
        due("net with a fault", tell(x, "point a;;"), -9);
        due("undo stays", x.now(6), 1);
        due("taken stays", x.now(3), 2);
        due("tape", x.now(7), 0);
        due("net", tell(x, "line"), -5);
        due("net", tell(x, points(3) + lines("ab ac")), 5);
        due("there", x.now(1), 7);
        due("taken", x.now(3), 0);
        due("undo", x.undo(), NONE);
        due("lines", x.now(2), 2);
        due("tape", x.now(7), 0);
        due("net of nothing", x.net(), 0);
        due("points", x.now(0), 0);
        yes("images stay", x.restore(0));
        due("taken", x.now(3), 2);
        due("lines may come ahead of points", tell(x, "point a 3;line a a;point b;line b a;line b a;"), 5);
        due("loops", x.point(0, 2), 1);
        due("weight", x.now(5), 4);
        // what was asked of one net is not answered of the next
        tell(x, points(3) + lines("ab bc ca"));
        due("cut", x.cuts(1), 1);
        due("packed", x.packed(), 1);
        due("near", x.near(), 4);
        tell(x, points(3) + lines("aa bb cc"));
        due("cut", x.cuts(1), 0);
        due("packed", x.packed(), 3);
        due("near", x.near(), 7);
    }

    private static void faults() {
        right("", 0);
        right(" \n \n", 0);
        right("point a;", 1);
        right("\npoint\n\na\n9 ; point  b;line a\nb;", 3);
        right("point a 01;", 1);
        right("point abcdefg;point linex;point points;", 3);
        right("point abcdefg;point abcdefh;point abcdef;point bacdefg;", 4);
        right(points(12), 12);
        right(points(7) + lines("aa aa aa bb bb bb cc cc cc dd dd dd ee ee ee ff ff ff gg gg"), 27);
        right("point a;" + times(592, " "), 1);
        // 1: no token, or one that can't come
        fault(";", 1, 0);
        fault("7;", 1, 0);
        fault("a;", 1, 0);
        fault("points a;", 1, 0);
        fault("pointa;", 1, 0);
        fault("point;", 1, 5);
        fault("point 1;", 1, 6);
        fault("point 0;", 1, 6);
        fault("point point;", 1, 6);
        fault("point line;", 1, 6);
        fault("point abcdefgh;", 1, 6);
        fault("point a1;", 1, 6);
        fault("point a 1b;", 1, 8);
        fault("point a 100;", 1, 8);
        fault("point a b;", 1, 8);
        fault("point a 1 1;", 1, 10);
        fault("point a 1 b;", 1, 10);
        fault("point a,", 1, 7);
        fault("point a\t;", 1, 7);
        fault("point A;", 1, 6);
        fault("point \u00e9;", 1, 6);
        fault("point a;line a;", 1, 14);
        fault("point a;line 1 a;", 1, 13);
        fault("point a;line line a;", 1, 13);
        fault("point a;line a point;", 1, 15);
        fault("point a;line a a 1;", 1, 17);
        fault("point a;line a a a;", 1, 17);
        fault("point", 1, 5);
        fault("point a", 1, 7);
        fault("point a  ", 1, 9);
        fault("point a 1", 1, 9);
        fault("point a;line a", 1, 14);
        fault("point a;line a a", 1, 16);
        fault("point a;" + times(593, " "), 1, 600);
        fault("point a;" + times(592, " ") + "?", 1, 600);
        fault("point a " + times(600, " "), 1, 600);
        fault("point a;" + times(591, " ") + "?", 1, 599);
        // tokens that begin ahead of 600 are read whole
        fault(times(599, " ") + "point a;", 1, 600);
        fault(times(599, " ") + "points", 1, 599);
        fault("point " + times(592, " ") + "abcdefg;", 1, 600);
        fault("point " + times(592, " ") + "abcdefgh;", 1, 598);
        fault("point a;line " + times(586, " ") + "ab;", 3, 599);
        fault("point a;line " + times(586, " ") + "a;", 1, 600);
        // 2: a number
        fault("point a 0;", 2, 8);
        fault("point a 00;", 2, 8);
        fault("point a 10;", 2, 8);
        fault("point a 99;", 2, 8);
        // 3: a name
        fault("point a;point b;point a;", 3, 22);
        fault("point a;line b a;", 3, 13);
        fault("point a;line a b;", 3, 15);
        fault("line a a;point a;", 3, 5);
        // 4: too many
        fault(points(12) + "point m;", 4, 96);
        fault(points(12) + "point a;", 4, 96);
        fault(points(12) + "point", 4, 96);
        String twenty = points(7) + lines("aa aa aa bb bb bb cc cc cc dd dd dd ee ee ee ff ff ff gg gg");
        fault(twenty + "line g g;", 4, 236);
        fault(twenty + "line x x;", 4, 236);
        // 5: ends
        fault(points(2) + lines("aa aa aa ab"), 5, 48);
        fault(points(2) + lines("aa aa aa ba"), 5, 50);
        fault(points(2) + lines("aa aa ab aa"), 5, 50);
        fault(points(2) + lines("ab ab ab ab ab ab bb"), 5, 75);
        // the first along the text
        fault("point a 0;line b b;", 2, 8);
        fault("point a;line b a;point a 0;", 3, 13);
        RingCutters x = new RingCutters();
        tell(x, "?");
        due("fault", x.fault(), 1);
        tell(x, "point a;");
        due("fault behind a right one", x.fault(), 0);
    }

    private static void now() {
        RingCutters x = told("point a 2;point b;point c 9;point d 4;line a b;line a b;line c c;");
        due("points", x.now(0), 4);
        due("there", x.now(1), 15);
        due("lines", x.now(2), 3);
        due("taken", x.now(3), 0);
        due("parts", x.now(4), 3);
        due("weight", x.now(5), 16);
        due("acts", x.now(6), 0);
        feed(x, "abc");
        due("tape", x.now(7), 3);
        due("another", x.now(8), NONE);
        due("another", x.now(-1), NONE);
        due("another", x.now(Integer.MIN_VALUE), NONE);
        due("shrink", x.shrink(), 2);
        due("points", x.now(0), 4);
        due("there", x.now(1), 11);
        due("taken", x.now(3), 4);
        due("parts", x.now(4), 2);
        due("weight", x.now(5), 7);
        due("lines", x.now(2), 2);
        due("acts", x.now(6), 1);
        x.drop(1);
        due("taken, not gone alone", x.now(3), 4);
        due("lines", x.now(2), 0);
        due("parts", x.now(4), 2);
        due("one part", told(points(5) + lines("ae eb bd dc")).now(4), 1);
    }

    private static void point() {
        RingCutters x = told("point a 2;point b;point c 9;line a b;line a b;line a a;line c b;");
        due("weight", x.point(0, 0), 2);
        due("weight", x.point(1, 0), 1);
        due("ends", x.point(0, 1), 4);
        due("ends", x.point(1, 1), 3);
        due("loops", x.point(0, 2), 1);
        due("loops", x.point(1, 2), 0);
        due("those beside", x.point(0, 3), 2);
        due("those beside", x.point(1, 3), 5);
        yes("another what", pointThrows(x, 0, 4));
        yes("another what", pointThrows(x, 0, -1));
        yes("no point", pointThrows(x, -1, 0));
        yes("no point", pointThrows(x, 3, 0));
        yes("no point", pointThrows(x, 32, 0));
        yes("no point", pointThrows(x, Integer.MIN_VALUE, 0));
        x.drop(1);
        yes("gone", pointThrows(x, 1, 0));
        due("those beside", x.point(0, 3), 0);
        due("ends", x.point(0, 1), 2);
    }

    private static void linesBetween() {
        RingCutters x = told(points(3) + lines("ab ba cc"));
        due("lines", x.lines(0, 1), 2);
        due("lines", x.lines(1, 0), 2);
        due("lines", x.lines(0, 2), 0);
        due("loops", x.lines(2, 2), 1);
        due("loops", x.lines(0, 0), 0);
        due("none", x.lines(0, 3), NONE);
        due("none", x.lines(-1, 0), NONE);
        due("none", x.lines(32, 33), NONE);
        x.drop(0);
        due("gone", x.lines(0, 1), NONE);
        due("gone", x.lines(1, 0), NONE);
        due("gone", x.lines(0, 0), NONE);
        due("lines", x.lines(1, 1), 0);
    }

    private static void cuts() {
        RingCutters x = told(points(5) + lines("ab bc ca cd cd ee"));
        due("cut", x.cuts(4), 0);
        due("cut", x.cuts(4 + 16), 1);
        due("cut", x.cuts(1 + 8 + 16), 1);
        due("cut", x.cuts(31), 1);
        due("cut", x.cuts(0), 0);
        due("not there", x.cuts(32), NONE);
        due("not there", x.cuts(-1), NONE);
        due("not there", x.cuts(Integer.MIN_VALUE), NONE);
        x.drop(2);
        due("cut", x.cuts(16), 1);
        due("gone", x.cuts(4 + 16), NONE);
        due("no ring", told(points(3) + lines("ab bc")).cuts(0), 1);
    }

    private static void fewest() {
        RingCutters x = told("point a;point b 9;point c;point d 2;" + lines("ab bc ca bd bd"));
        due("how many", x.fewest(0), 1);
        due("which", x.fewest(1), 2);
        due("weight", x.fewest(2), 9);
        due("another", x.fewest(3), NONE);
        due("another", x.fewest(-1), NONE);
        due("least number of like ones", told(points(4) + lines(FOUR)).fewest(1), 3);
        due("fewest with a greater number ahead of more", told(points(4) + lines("ad ad bd bd cd cd")).fewest(1), 8);
        due("none needed", told(points(3)).fewest(1), 0);
        due("all looped", told(points(12) + lines("aa bb cc dd ee ff gg hh ii jj kk ll")).fewest(1), 4095);
    }

    private static void lightest() {
        RingCutters x = told("point a;point b 9;point c;point d 2;" + lines("ab bc ca bd bd"));
        due("how many", x.lightest(0), 2);
        due("which", x.lightest(1), 9);
        due("weight", x.lightest(2), 3);
        due("another", x.lightest(3), NONE);
        due("another", x.lightest(-1), NONE);
        due("least number of like ones, though more", told("point a;point b;point c 2;" + lines("ac ac bc bc")).lightest(1), 3);
        due("least number of like ones", told("point a 2;point b;point c;" + lines("ba ba ca ca")).lightest(1), 1);
        due("none needed", told(points(3)).lightest(2), 0);
        x.weigh(1, 1);
        due("which, weighed anew", x.lightest(1), 2);
    }

    private static void those() {
        RingCutters x = told(points(5) + lines("ab bc ca dd"));
        due("how many", x.those(0), 3);
        due("in each", x.those(1), 8);
        due("in some", x.those(2), 15);
        due("another", x.those(3), NONE);
        due("another", x.those(-1), NONE);
        RingCutters y = told(points(3));
        due("one, of no point", y.those(0), 1);
        due("in each", y.those(1), 0);
        due("in some", y.those(2), 0);
        RingCutters z = told(points(2) + lines("aa bb"));
        due("one", z.those(0), 1);
        due("in each", z.those(1), 3);
    }

    private static void sparing() {
        RingCutters x = told(points(5) + lines("ab bc ca cd cd"));
        due("nothing spared", x.sparing(0), 4);
        due("one spared", x.sparing(4), 9);
        due("two spared", x.sparing(5), 10);
        due("a whole ring spared", x.sparing(12), NONE);
        due("all spared", x.sparing(31), NONE);
        due("spared that is in no ring", x.sparing(16), 4);
        due("not there", x.sparing(32), NONE);
        due("not there", x.sparing(-1), NONE);
        x.drop(0);
        due("gone", x.sparing(1), NONE);
        due("spared", x.sparing(4), 8);
        due("no ring, all spared", told(points(2) + lines("ab")).sparing(3), 0);
    }

    private static void upTo() {
        RingCutters x = told(points(6) + lines("aa bc cd db ef ef"));
        due("0", x.upTo(0), 1);
        due("2", x.upTo(2), 1);
        due("3", x.upTo(3), 2);
        due("4", x.upTo(4), 2);
        due("5", x.upTo(5), 3);
        due("not told", x.upTo(6), NONE);
        due("not told", x.upTo(-1), NONE);
        due("not told", x.upTo(31), NONE);
        x.drop(0);
        due("of those there", x.upTo(3), 1);
        due("told, though gone", x.upTo(0), 0);
        x.drop(5);
        due("told, though gone", x.upTo(5), 1);
        due("all", told(points(12) + lines("ll ll aa")).upTo(11), 2);
    }

    private static void rings() {
        due("none", told(points(3) + lines("ab bc")).rings(), 0);
        due("loops", told(points(1) + lines("aa aa aa")).rings(), 3);
        due("two lines", told(points(2) + lines("ab ab")).rings(), 1);
        due("six lines", told(points(2) + lines("ab ab ab ab ab ab")).rings(), 15);
        due("four points, all lines", told(points(4) + lines(FOUR)).rings(), 7);
        due("doubled triangle", told(points(3) + lines("ab ab bc bc ca ca")).rings(), 8 + 3);
        due("five points, all lines", told(points(5) + lines(FOUR + " ae be ce de")).rings(), 37);
        due("ten points, doubled", told(points(10) + lines("ab ab bc bc cd cd de de ef ef fg fg gh gh hi hi ij ij ja ja")).rings(), 1024 + 10);
        due("one of all points", told(points(12) + lines("ab bc cd de ef fg gh hi ij jk kl la")).rings(), 1);
        RingCutters x = told(points(4) + lines(FOUR));
        x.drop(0);
        due("one gone", x.rings(), 1);
    }

    private static void shortest() {
        due("none", told(points(3) + lines("ab bc")).shortest(), 0);
        due("a loop", told(points(4) + lines("ab ab dd")).shortest(), 8);
        due("two lines", told(points(5) + lines("ab bc ca de de")).shortest(), 24);
        due("of like ones", told(points(6) + lines("df fe ed ab bc cd da bd")).shortest(), 11);
        due("a long one", told(points(12) + lines("ab bc cd de ef fg gh hi ij jk kl la")).shortest(), 4095);
    }

    private static void packing() {
        RingCutters x = told(points(7) + lines("ab bc ca cd de ec fg fg"));
        due("packed", x.packed(), 2);
        due("first", x.pack(0), 7);
        due("second", x.pack(1), 96);
        due("none such", x.pack(2), NONE);
        due("none such", x.pack(-1), NONE);
        due("none such", x.pack(Integer.MAX_VALUE), NONE);
        // abc would be the least ring, but two are had by abd and cef alone
        RingCutters y = told(points(6) + lines("ab bc ca ad bd ce ef fc"));
        due("packed", y.packed(), 2);
        due("first", y.pack(0), 11);
        due("second", y.pack(1), 52);
        due("none", told(points(3)).packed(), 0);
        due("none", told(points(3)).pack(0), NONE);
        RingCutters z = told(points(12) + lines("aa bb cc dd ee ff gg hh ii jj kk ll ab bc ca"));
        due("all looped", z.packed(), 12);
        due("last", z.pack(11), 2048);
        z.part(0, 0);
        due("one loop less", z.packed(), 11);
        due("first", z.pack(0), 2);
    }

    private static void near() {
        RingCutters x = told(TRIANGLE);
        due("near", x.near(), 2);
        bound(x, 1, 1);
        // three lines: no ring but one point has two ends alone, 3/2 times (3 + 1 - 2)
        RingCutters theta = told("point a 3;point b 5;" + lines("ab ab ab"));
        due("near", theta.near(), 1);
        bound(theta, 3, 1);
        // all four: the pile is d c b a, a and b are given back
        RingCutters four = told(points(4) + lines(FOUR));
        due("near", four.near(), 12);
        bound(four, 3, 2);
        // 1/2 times 3, then 1 of the ring b c d
        RingCutters weighed = told("point a;point b 2;point c 3;point d 4;" + lines(FOUR));
        due("near", weighed.near(), 3);
        bound(weighed, 5, 2);
        // a loop at a point of many ends is such a ring, of a lesser number than a b c
        RingCutters looped = told("point a 5;point b;point c;" + lines("aa ab bc ca"));
        due("near", looped.near(), 1);
        bound(looped, 5, 1);
        RingCutters none = told(points(3) + lines("ab bc"));
        due("near without rings", none.near(), 0);
        bound(none, 0, 1);
        // two parts at once: 1/2 times (6 + 2 - 4)
        RingCutters parts = told(points(4) + lines("ab ab ab cd cd cd"));
        due("near", parts.near(), 2 + 8);
        bound(parts, 2, 1);
        yes("another what", boundThrows(four, 2));
        yes("another what", boundThrows(four, -1));
        four.weigh(0, 2);
        // d c b weigh 0 first, a has 1/2: b goes back; without a c d there would be a triangle
        due("near, weighed anew", four.near(), 12);
        bound(four, 3, 2);
        RingCutters gone = told(points(5) + lines(FOUR + " ee"));
        gone.drop(4);
        due("near of those there", gone.near(), 12);
    }

    private static void shrink() {
        RingCutters loops = told(points(3) + lines("bb cc"));
        due("rule 0 ahead of rule 1", loops.shrink(), 1);
        due("taken", loops.now(3), 2);
        due("rule 0", loops.shrink(), 2);
        due("taken", loops.now(3), 6);
        due("rule 1", loops.shrink(), 16);
        due("not taken", loops.now(3), 6);
        due("none left", loops.shrink(), NONE);
        due("acts", loops.now(6), 3);

        RingCutters tips = told(points(5) + lines("ab bc bc bc bc de"));
        due("rule 1 ahead of rule 2", tips.shrink(), 16);
        due("rule 1, one end", tips.shrink(), 19);
        due("rule 1, no end", tips.shrink(), 20);
        due("rule 2", tips.shrink(), 33);
        due("lines", tips.lines(1, 2), 2);
        due("rule 3, both lines to one", tips.shrink(), 49);
        due("a loop", tips.lines(2, 2), 1);
        due("rule 0", tips.shrink(), 2);

        RingCutters pairs = told(points(4) + lines("bc bc bc ad ad ad ab cd"));
        due("rule 2, least lesser one", pairs.shrink(), 32);
        due("lines", pairs.lines(0, 3), 2);
        due("rule 2", pairs.shrink(), 33);
        due("lines", pairs.lines(1, 2), 2);
        due("none", pairs.shrink(), NONE);
        RingCutters others = told(points(4) + lines("ad ad ad ab ab ab cd cd cd cb cb cb"));
        due("rule 2, least other one", others.shrink(), 32);
        due("lines", others.lines(0, 1), 2);
        due("lines", others.lines(0, 3), 3);

        // a has two ends; it weighs less than b, not less than c
        String square = lines("ab ac bc bd bd cd cd");
        RingCutters same = told("point a 3;point b 4;point c 3;point d 9;" + square);
        due("rule 3, as one of them", same.shrink(), 48);
        due("a line comes", same.lines(1, 2), 2);
        due("lines", same.now(2), 6);
        RingCutters lighter = told("point a 2;point b 4;point c 3;point d 9;" + square);
        due("rule 3 not used", lighter.shrink(), NONE);
        due("no act", lighter.now(6), 0);
        due("lightest stays known", told(TRIANGLE).lightest(2), 1);
        due("nothing", new RingCutters().shrink(), NONE);
    }

    private static void shrinkAll() {
        RingCutters x = told(TRIANGLE);
        due("steps", x.shrinkAll(), 3);
        due("there", x.now(1), 0);
        due("taken", x.now(3), 2);
        due("one act", x.now(6), 1);
        due("no more", x.shrinkAll(), 0);
        due("no act", x.now(6), 1);
        due("undo", x.undo(), 0);
        due("there", x.now(1), 7);
        due("taken", x.now(3), 0);
        due("lines", x.now(2), 3);
        due("none can be used", told(points(4) + lines(FOUR)).shrinkAll(), 0);
        due("all points alone", told(points(12)).shrinkAll(), 12);
    }

    private static void drop() {
        RingCutters x = told(points(4) + lines("ab bb bc cd"));
        due("drop", x.drop(1), 3);
        due("there", x.now(1), 13);
        due("lines", x.now(2), 1);
        due("not taken", x.now(3), 0);
        due("gone", x.drop(1), NONE);
        due("no such", x.drop(4), NONE);
        due("no such", x.drop(-1), NONE);
        due("no such", x.drop(33), NONE);
        due("acts", x.now(6), 1);
        due("drop", x.drop(0), 2);
        due("told", x.now(0), 4);
    }

    private static void join() {
        RingCutters x = told(points(8) + lines("aa aa bb bb cc cc"));
        due("join", x.join(3, 4), 1);
        due("join", x.join(4, 3), 2);
        due("a loop", x.join(5, 5), 1);
        due("a loop", x.join(5, 5), 2);
        due("a loop", x.join(5, 5), 3);
        due("8 ends", x.join(5, 5), -2);
        due("7 ends", x.join(5, 6), -2);
        due("7 ends", x.join(6, 5), -2);
        due("5 ends", x.join(0, 6), 1);
        due("7 ends by a loop", x.join(0, 0), -2);
        due("6 ends", x.join(0, 6), 2);
        due("7 ends", x.join(0, 6), -2);
        due("none", x.join(0, 8), NONE);
        due("none", x.join(-1, 0), NONE);
        due("none", x.join(5, 31), NONE);
        due("acts", x.now(6), 7);
        x.drop(7);
        due("gone", x.join(7, 6), NONE);
        due("gone", x.join(5, 7), NONE);
        RingCutters y = told(points(8) + lines("aa aa aa bb bb bb cc cc cc dd dd dd ee ee ee ff ff ff gg"));
        due("the 20th line", y.join(6, 7), 1);
        due("a 21st line", y.join(6, 7), -2);
        due("a 21st line", y.join(7, 7), -2);
        due("lines", y.now(2), 20);
        y.part(0, 0);
        due("20 again", y.join(7, 7), 1);
    }

    private static void part() {
        RingCutters x = told(points(4) + lines("ab ab cc cc"));
        due("part", x.part(1, 0), 1);
        due("part", x.part(0, 1), 0);
        due("none left", x.part(0, 1), NONE);
        due("loop", x.part(2, 2), 1);
        due("no loop", x.part(0, 0), NONE);
        due("none", x.part(0, 4), NONE);
        due("none", x.part(-1, 2), NONE);
        due("none", x.part(32, 34), NONE);
        due("acts", x.now(6), 3);
        due("lines", x.now(2), 1);
        x.drop(2);
        due("gone", x.part(2, 2), NONE);
        due("undo", x.undo(), 3);
        due("loops again", x.lines(2, 2), 1);
    }

    private static void weigh() {
        RingCutters x = told("point a 5;point b;");
        due("weigh", x.weigh(0, 9), 0);
        due("weight", x.point(0, 0), 9);
        due("has it", x.weigh(0, 9), 1);
        due("weigh", x.weigh(0, 1), 0);
        due("no such weight", x.weigh(0, 0), NONE);
        due("no such weight", x.weigh(0, 10), NONE);
        due("no such weight", x.weigh(0, -1), NONE);
        due("no such point", x.weigh(2, 5), NONE);
        due("no such point", x.weigh(-1, 5), NONE);
        due("acts", x.now(6), 2);
        x.drop(1);
        due("gone", x.weigh(1, 5), NONE);
        due("weight of all there", x.now(5), 1);
    }

    /** The first draws of seed 1 are worked out step by step beside the class. */
    private static void drawn() {
        RingCutters x = told(points(3));
        due("too few", x.drawn(0, 1), NONE);
        due("too many", x.drawn(61, 1), NONE);
        due("below 0", x.drawn(-1, 1), NONE);
        due("acts", x.now(6), 0);
        int s = 1;
        s = s * 1103515245 + 12345;
        int kind = (s >>> 8) % 8;
        s = s * 1103515245 + 12345;
        int p = (s >>> 8) % 3;
        s = s * 1103515245 + 12345;
        int q = (s >>> 8) % 3;
        yes("the first deed of seed 1 is a line", kind > 2);
        due("one deed", x.drawn(1, 1), 1);
        due("its line", x.lines(p, q), 1);
        due("lines", x.now(2), 1);
        due("acts", x.now(6), 1);
        due("undo", x.undo(), 0);
        due("lines", x.now(2), 0);
        RingCutters y = new RingCutters();
        due("without points", y.drawn(60, 7), 0);
        due("no act", y.now(6), 0);
        RingCutters z = told(points(2));
        z.drop(0);
        z.drop(1);
        due("all gone", z.drawn(60, 7), 0);
        due("acts", z.now(6), 2);
        RingCutters again = told(points(12));
        RingCutters same = told(points(12));
        due("60 deeds", again.drawn(60, -5), same.drawn(60, -5));
        due("the same seed, the same net", again.now(5), same.now(5));
        due("one act", again.now(6), 1);
    }

    private static void undo() {
        RingCutters x = told(points(4) + lines("ab bc ca"));
        due("nothing to undo", x.undo(), NONE);
        for (int w = 2; w <= 9; w++) {
            x.weigh(0, w);
        }
        due("eight acts", x.now(6), 8);
        x.drop(1);
        due("eight at most", x.now(6), 8);
        x.drop(1);
        x.part(1, 2);
        x.join(1, 1);
        x.weigh(1, 3);
        x.weigh(0, 9);
        x.join(9, 9);
        due("what was not done is no act", x.now(6), 8);
        due("undo", x.undo(), 7);
        due("there again", x.now(1), 15);
        due("lines again", x.now(2), 3);
        for (int left = 6; left >= 0; left--) {
            due("undo", x.undo(), left);
            due("weight", x.point(0, 0), left + 2);
        }
        due("no more", x.undo(), NONE);
        due("the first act was not kept", x.point(0, 0), 2);
        RingCutters y = told(points(3) + lines("aa ab"));
        y.shrink();
        due("taken", y.now(3), 1);
        y.shrinkAll();
        due("there", y.now(1), 0);
        due("undo", y.undo(), 1);
        due("there", y.now(1), 6);
        due("taken", y.now(3), 1);
        due("undo", y.undo(), 0);
        due("taken", y.now(3), 0);
        due("there", y.now(1), 7);
        due("rings", y.rings(), 1);
        due("shortest", y.shortest(), 1);
        y.join(1, 2);
        due("undo again", y.undo(), 0);
        due("lines", y.now(2), 2);
        y.join(2, 2);
        due("image is no act", y.image(0) ? y.now(6) : 99, 1);
        due("undo behind an image", y.undo(), 0);
    }

    private static void imagesAndRestore() {
        RingCutters x = told(TRIANGLE);
        no("no place", x.image(-1));
        no("no place", x.image(2));
        no("nothing kept", x.restore(0));
        no("nothing kept", x.restore(1));
        no("no place", x.restore(2));
        no("no place", x.restore(-1));
        yes("image", x.image(0));
        no("nothing kept in the other", x.restore(1));
        x.shrinkAll();
        yes("image", x.image(1));
        tell(x, "point a 7;line a");
        feed(x, "point z");
        due("fault", x.fault(), 1);
        yes("restore", x.restore(0));
        due("there", x.now(1), 7);
        due("taken", x.now(3), 0);
        due("rings", x.rings(), 1);
        due("nothing can be undone", x.undo(), NONE);
        due("acts", x.now(6), 0);
        due("tape stays", x.now(7), 7);
        due("fault stays", x.fault(), 1);
        x.drop(0);
        yes("restore again", x.restore(0));
        due("there", x.now(1), 7);
        yes("restore", x.restore(1));
        due("there", x.now(1), 0);
        due("taken", x.now(3), 2);
        due("told", x.now(0), 3);
        yes("kept anew", x.image(0));
        yes("restore", x.restore(0));
        due("taken", x.now(3), 2);
        RingCutters y = new RingCutters();
        yes("image of an empty net", y.image(1));
        tell(y, TRIANGLE);
        yes("restore", y.restore(1));
        due("points", y.now(0), 0);
        due("rings", y.rings(), 0);
    }

    private static void readingPromises() {
        promise("1 new object");
        newObject();
        promise("2 feed");
        feed();
        promise("3 end");
        end();
        promise("4 net");
        net();
        promise("5 fault");
        faults();
        promise("6 now");
        now();
        promise("7 point");
        point();
        promise("8 lines");
        linesBetween();
    }

    private static void cutPromises() {
        promise("9 cuts");
        cuts();
        promise("10 fewest");
        fewest();
        promise("11 lightest");
        lightest();
        promise("12 those");
        those();
        promise("13 sparing");
        sparing();
        promise("14 upTo");
        upTo();
        promise("15 rings");
        rings();
        promise("16 shortest");
        shortest();
        promise("17, 18 packed, pack");
        packing();
        promise("19, 20 near, bound");
        near();
    }

    private static void changePromises() {
        promise("21 shrink");
        shrink();
        promise("22 shrinkAll");
        shrinkAll();
        promise("23 drop");
        drop();
        promise("24 join");
        join();
        promise("25 part");
        part();
        promise("26 weigh");
        weigh();
        promise("27 drawn");
        drawn();
        promise("28 undo");
        undo();
        promise("29, 30 image, restore");
        imagesAndRestore();
    }

    public static void main(String[] args) {
        readingPromises();
        cutPromises();
        changePromises();
        finish();
    }
}
