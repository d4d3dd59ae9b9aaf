/**
 * The sentences of ../shared/DOC.md that name a boundary, in their order, each at the bound and just
 * beyond it: too small, too large, empty, as many as there may be, on the rim, of like ones the first.
 * The answers are worked out by hand. Which call is refused, and that it changes nothing: RefusalsTest.
 */
public final class BoundsTest {
    private static final int UNKNOWN = -1, OUTSIDE = -2, FULL = -4, NONE = -9;
    private static int wrong = 0;

    private static void due(String sentence, int got, int want) {
        if (got != want) {
            wrong++;
            System.out.println(sentence + ": answered " + got + ", due is " + want);
        }
    }

    public static void main(String[] args) {
        calls512();
        theMap();
        sites();
        corners();
        allowed();
        size();
        freeWithinTheMap();
        freeOfSites();
        coveredByTheFirst();
        clashAndGap();
        layouts();
        bestLayout();
        fullLayouts();
        theHand();
        faults();
        stir();
        settle();
        levels();
        levelsInOrder();
        edgeHeights();
        edgeSets();
        lines();
        bestDeal();
        noSites();
        noSitesAnyMore();
        eightSites();
        eightSitesByHand();
        move();
        about();
        sure();
        greatest();
        least();
        take();
        count();
        System.out.println(wrong == 0 ? "all bounds hold" : wrong + " answers are not as due");
        if (wrong != 0) {
            System.exit(1);
        }
    }

    /** A lone SITE on a MAP of this size, with a NAME of 20 by 10. */
    private static MapNames alone(int width, int height, int x, int y) {
        MapNames m = new MapNames();
        m.map(width, height);
        m.site(x, y, 20, 10, 1);
        return m;
    }

    /** So many SITES at one place in the middle, with boxes of 10 by 10, worth 1 each. */
    private static MapNames crowd(int sites) {
        MapNames m = new MapNames();
        for (int site = 0; site < sites; site++) {
            m.site(50, 50, 10, 10, 1);
        }
        return m;
    }

    /** Eight SITES far from each other and from the edges, with boxes of 10 by 10, worth 99 each. */
    private static MapNames eight() {
        MapNames m = new MapNames();
        m.map(400, 400);
        for (int site = 0; site < 8; site++) {
            m.site(40 + 40 * site, 200, 10, 10, 99);
        }
        return m;
    }

    private static void allowOnly(MapNames m, int site, int only) {
        for (int corner = 0; corner < 4; corner++) {
            m.allow(site, corner, corner == only);
        }
    }

    private static int freeCorners(MapNames m, int site) {
        return 1000 * m.free(site, 0) + 100 * m.free(site, 1) + 10 * m.free(site, 2) + m.free(site, 3);
    }

    // ---- "An object is used for at most 512 calls after it has been made"

    private static void calls512() {
        MapNames m = new MapNames();
        due("the first call", m.site(50, 50, 10, 10, 7), 0);
        for (int call = 2; call < 511; call++) {
            int x = call % 101;
            if (call % 2 == 0) {
                m.move(0, x, 50);
            } else {
                m.put(0, call % 4);
            }
        }
        // Call 509 was the last to put: 509 by 4 leaves 1; call 510 the last to move: 510 by 101 leaves 5.
        due("the 511th call", m.hand(0), 1);
        due("the 512th call", m.move(0, 0, 0), 5050);
    }

    // ---- 1 THE MAP

    private static void theMap() {
        MapNames m = new MapNames();
        due("100 and 100 at first", 1000 * m.count(1) + m.count(2), 100100);
        int[][] good = {{10, 10}, {10, 400}, {400, 10}, {400, 400}, {11, 399}};
        for (int[] g : good) {
            due("10 to 400 each: " + g[0] + " by " + g[1], m.map(g[0], g[1]), 1);
            due("WIDTH is told", m.count(1), g[0]);
            due("HEIGHT is told", m.count(2), g[1]);
        }
        int[][] bad = {{9, 10}, {10, 9}, {401, 400}, {400, 401}, {9, 401}, {Integer.MIN_VALUE, 10},
            {10, Integer.MAX_VALUE}};
        for (int[] b : bad) {
            due("10 to 400 each: " + b[0] + " by " + b[1], m.map(b[0], b[1]), OUTSIDE);
            due("WIDTH stays", m.count(1), 11);
            due("HEIGHT stays", m.count(2), 399);
        }
    }

    private static void sites() {
        int[][] maps = {{10, 400}, {400, 10}, {100, 100}};
        for (int[] side : maps) {
            MapNames m = new MapNames();
            m.map(side[0], side[1]);
            due("x 0 to WIDTH: -1", m.site(-1, 0, 1, 1, 1), OUTSIDE);
            due("x 0 to WIDTH: beyond", m.site(side[0] + 1, 0, 1, 1, 1), OUTSIDE);
            due("y 0 to HEIGHT: -1", m.site(0, -1, 1, 1, 1), OUTSIDE);
            due("y 0 to HEIGHT: beyond", m.site(0, side[1] + 1, 1, 1, 1), OUTSIDE);
            due("0, 0", m.site(0, 0, 1, 1, 1), 0);
            due("WIDTH, HEIGHT", m.site(side[0], side[1], 1, 1, 1), 1);
            due("WIDTH, 0", m.site(side[0], 0, 1, 1, 1), 2);
            due("0, HEIGHT", m.site(0, side[1], 1, 1, 1), 3);
            due("x is told", m.about(1, 0), side[0]);
            due("y is told", m.about(1, 1), side[1]);
        }
        MapNames m = new MapNames();
        due("wide 1, high 1, WORTH 1", m.site(1, 1, 1, 1, 1), 0);
        due("wide 60, high 20, WORTH 99", m.site(1, 1, 60, 20, 99), 1);
        due("wide 0", m.site(1, 1, 0, 1, 1), OUTSIDE);
        due("wide 61", m.site(1, 1, 61, 20, 99), OUTSIDE);
        due("high 0", m.site(1, 1, 1, 0, 1), OUTSIDE);
        due("high 21", m.site(1, 1, 60, 21, 99), OUTSIDE);
        due("WORTH 0", m.site(1, 1, 1, 1, 0), OUTSIDE);
        due("WORTH 100", m.site(1, 1, 60, 20, 100), OUTSIDE);
        due("the greatest are told", 10000 * m.about(1, 2) + 100 * m.about(1, 3) + m.about(1, 4), 602099);
        due("the least are told", 10000 * m.about(0, 2) + 100 * m.about(0, 3) + m.about(0, 4), 10101);
        for (int site = 2; site < 8; site++) {
            due("SITES 0 to 7", m.site(1, 1, 1, 1, 1), site);
        }
        due("there is no SITE 8", m.site(1, 1, 1, 1, 1), FULL);
        due("there is no SITE 8", m.about(8, 0), UNKNOWN);
        due("there is a SITE 7", m.about(7, 0), 1);
        due("there is no SITE -1", m.about(-1, 0), UNKNOWN);
        due("OUTSIDE is named before FULL", m.site(1, 1, 1, 1, 0), OUTSIDE);
    }

    /** Where the box of 3 by 2 at 50, 50 begins for each CORNER. */
    private static void corners() {
        int[] left = {50, 47, 47, 50};
        int[] low = {50, 50, 48, 48};
        for (int corner = 0; corner < 4; corner++) {
            for (int x = 45; x <= 55; x++) {
                MapNames m = new MapNames();
                m.site(50, 50, 3, 2, 1);
                m.site(0, 0, 1, 1, 1);
                for (int y = 45; y <= 55; y++) {
                    m.move(1, x, y);
                    boolean within = left[corner] < x && x < left[corner] + 3 && low[corner] < y && y < low[corner] + 2;
                    due("CORNER " + corner + " and a SITE at " + x + ", " + y, m.free(0, corner), within ? 0 : 1);
                }
            }
        }
    }

    private static void allowed() {
        MapNames m = crowd(2);
        for (int corner = 0; corner < 4; corner++) {
            due("ALLOWED (as at first)", m.allow(0, corner, true), 1);
            due("how it was: 1", m.allow(0, corner, false), 1);
            due("how it was: 0", m.allow(0, corner, false), 0);
            due("the same CORNER of the other SITE", m.allow(1, corner, true), 1);
        }
        due("there is no CORNER 4", m.allow(0, 4, false), OUTSIDE);
        due("there is no CORNER -1", m.allow(0, -1, false), OUTSIDE);
        due("none is FREE", freeCorners(m, 0), 0);
        due("all of the other are", freeCorners(m, 1), 1111);
        due("no SITE 2", m.allow(2, 0, false), UNKNOWN);
        m.site(20, 20, 2, 2, 2);
        due("ALLOWED (as at first) also for a SITE that comes later", m.allow(2, 0, false), 1);
    }

    private static void size() {
        MapNames m = new MapNames();
        m.site(1, 1, 1, 1, 1);
        m.site(1, 1, 60, 20, 1);
        m.site(1, 1, 19, 9, 1);
        m.site(1, 1, 20, 10, 1);
        due("SIZE 10 at first", m.rule(0, 1), 10);
        due("1 wide at SIZE 1: cut to 0, 1 at least", m.about(0, 5), 1);
        due("1 high at SIZE 1: cut to 0, 1 at least", m.about(0, 6), 1);
        due("60 wide at SIZE 1", m.about(1, 5), 6);
        due("20 high at SIZE 1", m.about(1, 6), 2);
        due("19 wide at SIZE 1: 1.9", m.about(2, 5), 1);
        due("9 high at SIZE 1: 0.9", m.about(2, 6), 1);
        due("20 wide at SIZE 1", m.about(3, 5), 2);
        due("10 high at SIZE 1", m.about(3, 6), 1);
        due("SIZE 40", m.rule(0, 40), 1);
        due("1 wide at SIZE 40", m.about(0, 5), 4);
        due("60 wide at SIZE 40", m.about(1, 5), 240);
        due("20 high at SIZE 40", m.about(1, 6), 80);
        due("SIZE 41", m.rule(0, 41), OUTSIDE);
        due("SIZE 0", m.rule(0, 0), OUTSIDE);
        due("SIZE stays", m.rule(0, 9), 40);
        due("1 wide at SIZE 9: 0.9", m.about(0, 5), 1);
        due("19 wide at SIZE 9: 17.1", m.about(2, 5), 17);
        due("9 high at SIZE 9: 8.1", m.about(2, 6), 8);
        m.rule(0, 19);
        due("1 wide at SIZE 19: 1.9", m.about(0, 5), 1);
        m.rule(0, 20);
        due("1 wide at SIZE 20", m.about(0, 5), 2);
    }

    private static void freeWithinTheMap() {
        due("ends with it at all sides", freeCorners(alone(40, 20, 20, 10), 0), 1111);
        due("1 beyond WIDTH", freeCorners(alone(39, 20, 20, 10), 0), 110);
        due("1 beyond HEIGHT", freeCorners(alone(40, 19, 20, 10), 0), 11);
        due("1 beyond x 0", freeCorners(alone(40, 20, 19, 10), 0), 1001);
        due("1 beyond y 0", freeCorners(alone(40, 20, 20, 9), 0), 1100);
        due("THE MAP as its only box", freeCorners(alone(20, 10, 0, 0), 0), 1000);
        due("at WIDTH and 0", freeCorners(alone(20, 10, 20, 0), 0), 100);
        due("at WIDTH and HEIGHT", freeCorners(alone(20, 10, 20, 10), 0), 10);
        due("at 0 and HEIGHT", freeCorners(alone(20, 10, 0, 10), 0), 1);
        due("wider than THE MAP", freeCorners(alone(19, 10, 0, 0), 0), 0);
        MapNames m = alone(400, 80, 160, 0);
        m.move(0, 160, 40);
        m.rule(0, 40);
        due("80 by 40 on HEIGHT 80", freeCorners(m, 0), 1111);
        m.move(0, 160, 41);
        due("80 by 40, 1 too far", freeCorners(m, 0), 11);
        m = new MapNames();
        m.map(10, 10);
        m.site(5, 5, 1, 1, 1);
        m.rule(0, 1);
        due("1 by 1 at the least", freeCorners(m, 0), 1111);
        m.move(0, 0, 10);
        due("1 by 1 at the edge", freeCorners(m, 0), 1);
    }

    private static void freeOfSites() {
        MapNames m = alone(100, 100, 50, 50);
        due("its own SITE is no other", m.free(0, 0), 1);
        m.site(50, 50, 1, 1, 1);
        due("another at the corner of the rim", freeCorners(m, 0), 1111);
        // The box of CORNER 0 is 50 to 70 by 50 to 60.
        int[][] rim = {{50, 60}, {70, 50}, {70, 60}, {51, 50}, {69, 50}, {51, 60}, {69, 60}, {50, 51}, {50, 59},
            {70, 51}, {70, 59}};
        for (int[] at : rim) {
            m.move(1, at[0], at[1]);
            due("not on its rim: " + at[0] + ", " + at[1], m.free(0, 0), 1);
        }
        int[][] within = {{51, 51}, {69, 51}, {51, 59}, {69, 59}};
        for (int[] at : within) {
            m.move(1, at[0], at[1]);
            due("within: " + at[0] + ", " + at[1], m.free(0, 0), 0);
        }
        allowOnly(m, 1, NONE);
        due("within, whether it has a CORNER or not", m.free(0, 0), 0);
        m.rule(0, 1);
        due("2 by 1 has no point within", m.free(0, 0), 1);
        m = eight();
        m.move(7, 41, 201);
        due("the last of eight within", m.free(0, 0), 0);
        m.move(7, 41, 200);
        due("the last of eight on the rim", m.free(0, 0), 1);
    }

    /** SITE 0 within the only box that SITE 1 may have, of 20 by 10 at 50 to 70 by 50 to 60. */
    private static void coveredByTheFirst() {
        MapNames m = new MapNames();
        m.site(69, 59, 1, 1, 5);
        m.site(50, 50, 20, 10, 9);
        allowOnly(m, 0, 0);
        allowOnly(m, 1, 0);
        due("covered: free", m.free(1, 0), 0);
        due("covered: FREE CORNERS", m.count(3), 1);
        due("covered: pairs of FREE ones", m.count(4), 0);
        due("covered: best", m.best(), 5);
        due("covered: named", m.named(), 1);
        due("covered: at", m.at(1), NONE);
        due("covered: full", m.full(), 0);
        due("covered: with", m.with(0, 0), 0);
        due("covered: sure", m.sure(0), NONE);
        due("covered: greatest, 18 by 9 at SIZE 9", m.greatest(), 9);
        due("covered: at LEVEL 1 at 38, 18 of 20, 10", m.comes(1), 1);
        m.put(1, 0);
        due("covered: faults", m.faults(), 1);
        m.move(0, 70, 59);
        due("on the rim: free", m.free(1, 0), 1);
        due("on the rim: FREE CORNERS", m.count(3), 2);
        due("on the rim: best", m.best(), 14);
        due("on the rim: full", m.full(), 1);
        due("on the rim: sure", m.sure(1), 0);
        due("on the rim: greatest", m.greatest(), 10);
        due("on the rim: comes", m.comes(1), 0);
        due("on the rim: faults", m.faults(), 0);
    }

    /** Boxes of 10 by 10 at CORNER 0 of 40, 40 and of another place. */
    private static int clashOf(int x, int y, int gap) {
        MapNames m = new MapNames();
        m.site(40, 40, 10, 10, 1);
        m.site(x, y, 10, 10, 1);
        m.rule(1, gap);
        int one = m.clash(0, 0, 1, 0);
        due("the other way round", m.clash(1, 0, 0, 0), one);
        return one;
    }

    private static void clashAndGap() {
        MapNames m = new MapNames();
        due("GAP 0 at first", m.rule(1, 20), 0);
        due("GAP 21", m.rule(1, 21), OUTSIDE);
        due("GAP -1", m.rule(1, -1), OUTSIDE);
        due("GAP 20 stays", m.rule(1, 0), 20);
        for (int gap : new int[] {0, 1, 19, 20}) {
            due("at the greater x", clashOf(50 + gap, 40, gap), 0);
            due("at the greater x, 1 nearer", clashOf(49 + gap, 40, gap), 1);
            due("at the lesser x", clashOf(30 - gap, 40, gap), 0);
            due("at the lesser x, 1 nearer", clashOf(31 - gap, 40, gap), 1);
            due("at the greater y", clashOf(40, 50 + gap, gap), 0);
            due("at the greater y, 1 nearer", clashOf(40, 49 + gap, gap), 1);
            due("at the lesser y", clashOf(40, 30 - gap, gap), 0);
            due("at the lesser y, 1 nearer", clashOf(40, 31 - gap, gap), 1);
            due("both in x and in y", clashOf(49 + gap, 49 + gap, gap), 1);
            due("in x alone", clashOf(49 + gap, 50 + gap, gap), 0);
            due("in y alone", clashOf(50 + gap, 49 + gap, gap), 0);
            due("in neither", clashOf(50 + gap, 50 + gap, gap), 0);
        }
        due("at one place", clashOf(40, 40, 0), 1);
        m = eight();
        // At 320 and 280 to the left: 310 to 320 and 270 to 280, 30 apart.
        due("the last two of eight", m.clash(7, 1, 6, 1), 0);
        due("towards each other: 20 apart", m.clash(7, 1, 6, 0), 0);
        m.rule(1, 20);
        due("20 apart with GAP 20", m.clash(7, 1, 6, 0), 0);
        m.move(7, 319, 200);
        due("19 apart with GAP 20", m.clash(7, 1, 6, 0), 1);
    }

    private static void layouts() {
        MapNames m = crowd(1);
        due("a LAYOUT of NONE alone STANDS", m.stands(), 1);
        for (int corner = 0; corner < 4; corner++) {
            m.put(0, corner);
            due("all its CORNERS are FREE", m.stands(), 1);
            m.allow(0, corner, false);
            due("one is not", m.stands(), 0);
        }
        m = crowd(2);
        m.put(0, 2);
        m.put(1, 2);
        due("two boxes CLASH", m.stands(), 0);
        m.put(1, 3);
        due("no two boxes CLASH", m.stands(), 1);
        m.rule(1, 1);
        due("they touch: with GAP 1 they CLASH", m.stands(), 0);
        m.put(1, NONE);
        due("NONE does not CLASH", m.stands(), 1);
    }

    private static void bestLayout() {
        MapNames m = crowd(5);
        due("how many have a CORNER in it: four of five", crowd(5).named(), 4);
        due("four of five", m.best(), 4);
        due("NONE behind all: the last goes without", m.at(4), NONE);
        for (int site = 0; site < 4; site++) {
            due("SITE by SITE, by CORNER", m.at(site), site);
        }
        m.rule(1, 1);
        due("with GAP 1 only one stands", m.best(), 1);
        due("the first", m.at(0), 0);
        due("NONE for the second", m.at(1), NONE);
        m = new MapNames();
        m.site(50, 50, 10, 10, 98);
        m.site(50, 50, 10, 10, 99);
        m.rule(1, 1);
        due("of greatest WORTH", m.best(), 99);
        due("1 less is not like", m.at(0), NONE);
        m = new MapNames();
        m.site(50, 50, 10, 10, 99);
        m.site(50, 50, 10, 10, 99);
        m.rule(1, 1);
        due("of like ones", m.best(), 99);
        due("of like ones the first", m.at(0), 0);
        due("of like ones the first", m.at(1), NONE);
        allowOnly(m, 0, 3);
        due("a CORNER 3 comes before NONE", m.at(0), 3);
        due("also if the other has CORNER 0", m.at(1), NONE);
        allowOnly(m, 0, NONE);
        due("no CORNER is ALLOWED", m.at(0), NONE);
        due("then the other", m.at(1), 0);
        due("there is no SITE 2", m.at(2), UNKNOWN);
        due("there is no SITE -1", m.at(-1), UNKNOWN);
    }

    private static void fullLayouts() {
        due("one SITE has 4", crowd(1).full(), 4);
        due("four have 24", crowd(4).full(), 24);
        due("five have none", crowd(5).full(), 0);
        due("eight have none", crowd(8).full(), 0);
        MapNames m = crowd(4);
        for (int site = 0; site < 4; site++) {
            allowOnly(m, site, 3 - site);
        }
        due("one alone", m.full(), 1);
        due("in how many: in all", m.with(1, 2), 1);
        due("in how many: in none", m.with(1, 1), 0);
        due("CORNER 3", m.with(0, 3), 1);
        due("there is no CORNER 4", m.with(0, 4), OUTSIDE);
        due("there is no CORNER -1", m.with(0, -1), OUTSIDE);
        due("there is no SITE 4", m.with(4, 0), UNKNOWN);
        due("UNKNOWN before OUTSIDE", m.with(4, 4), UNKNOWN);
        allowOnly(m, 3, NONE);
        due("a CORNER for each SITE: not for the last", m.full(), 0);
        due("so in none of them", m.with(0, 3), 0);
        due("as many as there may be", eight().full(), 65536);
        due("a fourth of them", eight().with(7, 3), 16384);
    }

    // ---- 2 THE HAND

    private static void theHand() {
        MapNames m = crowd(2);
        due("NONE for all at first", m.hand(0), NONE);
        due("where it was: NONE", m.put(0, 0), NONE);
        due("where it was: 0", m.put(0, 3), 0);
        due("CORNER 4", m.put(0, 4), OUTSIDE);
        due("CORNER -1", m.put(0, -1), OUTSIDE);
        due("just above NONE", m.put(0, -8), OUTSIDE);
        due("just below NONE", m.put(0, -10), OUTSIDE);
        due("where it was: 3", m.put(0, NONE), 3);
        due("SITE 2", m.put(2, 0), UNKNOWN);
        due("SITE -1", m.put(-1, NONE), UNKNOWN);
        due("UNKNOWN before OUTSIDE", m.put(2, 4), UNKNOWN);
        m.put(0, 1);
        m.put(1, 2);
        due("a new SITE", m.site(9, 9, 9, 9, 9), 2);
        due("a new SITE has NONE", m.hand(2), NONE);
        due("the others keep theirs", 10 * m.hand(0) + m.hand(1), 12);
        m.map(100, 100);
        due("there is none of them on another MAP", m.hand(0), UNKNOWN);
        due("a new SITE there", m.site(9, 9, 9, 9, 9), 0);
        due("has NONE too", m.hand(0), NONE);
        due("there is no second", m.hand(1), UNKNOWN);
        m.site(9, 9, 9, 9, 9);
        due("the second has NONE", m.hand(1), NONE);
    }

    private static void faults() {
        MapNames m = crowd(1);
        due("none without a CORNER", m.faults(), 0);
        m.put(0, 0);
        due("none at a FREE one", m.faults(), 0);
        m.rule(0, 40);
        m.move(0, 60, 60);
        due("40 by 40 ends with THE MAP", m.faults(), 0);
        m.move(0, 61, 61);
        due("beyond in x and in y: one FAULT all the same", m.faults(), 1);
        m.allow(0, 0, false);
        m.site(70, 70, 1, 1, 1);
        due("and not ALLOWED, and another SITE within: one still", m.faults(), 1);
        due("and it is of SITE 0", m.faultsOf(0), 1);
        due("so it does not STAND", m.stands(), 0);
        due("not of the SITE within", m.faultsOf(1), 0);
        m = crowd(2);
        m.put(0, 0);
        m.put(1, 1);
        due("boxes that touch", m.faults(), 0);
        m.rule(1, 1);
        due("and with GAP 1", m.faults(), 1);
        due("a pair is a FAULT of both", 10 * m.faultsOf(0) + m.faultsOf(1), 11);
        m.put(1, NONE);
        due("NONE is in no pair", m.faults(), 0);
        due("SITE 2", m.faultsOf(2), UNKNOWN);
        due("SITE -1", m.faultsOf(-1), UNKNOWN);
    }

    private static void stir() {
        MapNames m = crowd(2);
        due("none has a CORNER: there is none", m.stir(), NONE);
        m.put(0, 0);
        due("no FAULTS: there is none", m.stir(), NONE);
        m.put(1, 0);
        due("of like ones the least SITE, then CORNER", m.stir(), 1);
        m.put(0, 0);
        allowOnly(m, 0, 0);
        due("the other SITE, the least CORNER", m.stir(), 11);
        m.put(1, 0);
        allowOnly(m, 1, 3);
        m.allow(1, 0, true);
        due("CORNER 3 alone mends", m.stir(), 13);
        m.put(1, 0);
        allowOnly(m, 1, 0);
        due("1 FAULT for 1 FAULT: not fewer", m.stir(), NONE);
        due("nothing is otherwise then", 10 * m.hand(0) + m.hand(1), 0);
        m.allow(0, 0, false);
        due("2 FAULTS, and 1 by CORNER 1, that is not FREE", m.stir(), 1);
        due("1 FAULT that no CORNER mends", m.stir(), NONE);
        due("beyond WIDTH by 1", beyondBy(1).faultsOf(0), 1);
        due("beyond WIDTH by 1", beyondBy(1).stands(), 0);
        due("beyond WIDTH by 1", beyondBy(1).stir(), 1);
        due("beyond WIDTH by 1", beyondBy(1).settle(), 1);
        due("ends with THE MAP", beyondBy(0).faultsOf(0), 0);
        due("ends with THE MAP", beyondBy(0).stands(), 1);
        due("ends with THE MAP", beyondBy(0).stir(), NONE);
        due("ends with THE MAP", beyondBy(0).settle(), 0);
        m = eight();
        for (int site = 0; site < 8; site++) {
            m.put(site, site % 4);
        }
        allowOnly(m, 7, 0);
        due("SITE 7 from CORNER 3", m.stir(), 70);
        m.put(7, 0);
        allowOnly(m, 7, 3);
        due("the greatest that it answers", m.stir(), 73);
    }

    /** A lone SITE put to CORNER 0, so far beyond WIDTH. */
    private static MapNames beyondBy(int beyond) {
        MapNames m = alone(100, 100, 80 + beyond, 50);
        m.put(0, 0);
        return m;
    }

    private static void settle() {
        MapNames m = crowd(2);
        due("none to be had", m.settle(), 0);
        m.put(0, 0);
        m.put(1, 0);
        due("one", m.settle(), 1);
        due("till there is none", m.stir(), NONE);
        allowOnly(m, 0, NONE);
        due("a FAULT that stays", m.settle(), 0);
        due("it is there", m.faults(), 1);
        m = eight();
        for (int site = 0; site < 8; site++) {
            m.put(site, 0);
            m.allow(site, 0, false);
        }
        due("each of eight", m.settle(), 8);
        for (int site = 0; site < 8; site++) {
            due("to its first CORNER that is FREE", m.hand(site), 1);
        }
        due("STANDS then", m.stands(), 1);
    }

    // ---- 3 LEVELS

    /** A lone SITE at the right edge of a MAP of 10 by 10 with so wide a box. */
    private static MapNames atTheRight(int wide, int size) {
        MapNames m = new MapNames();
        m.map(10, 10);
        m.site(10, 5, wide, 1, 1);
        m.rule(0, size);
        return m;
    }

    private static void levels() {
        for (int level = 0; level < 6; level++) {
            // At LEVEL z THE MAP is 10 times z and 1 wide.
            due("10 times " + (level + 1), atTheRight(10 * (level + 1), 10).comes(0), level);
            due("1 less", atTheRight(10 * (level + 1) - 1, 10).comes(0), level);
            due("CORNER 1", atTheRight(10 * (level + 1), 10).shownAt(0), 1);
            due("SHOWN at it", atTheRight(10 * (level + 1), 10).shown(level), 1);
            due("SHOWN before it", atTheRight(10 * (level + 1), 10).shown(level - 1), level == 0 ? OUTSIDE : 0);
            due("and at the last", atTheRight(10 * (level + 1), 10).shown(5), 1);
            if (level < 5) {
                due("1 more", atTheRight(10 * (level + 1) + 1, 10).comes(0), level + 1);
            }
        }
        // 47 times 13 by 10 is 61, 46 times 13 by 10 is 59.
        due("61 is too wide for LEVEL 5", atTheRight(47, 13).comes(0), NONE);
        due("so it is at no CORNER", atTheRight(47, 13).shownAt(0), NONE);
        due("and not SHOWN at the last", atTheRight(47, 13).shown(5), 0);
        due("59 is not", atTheRight(46, 13).comes(0), 5);
        MapNames m = atTheRight(10, 10);
        due("LEVEL -1", m.shown(-1), OUTSIDE);
        due("LEVEL 6", m.shown(6), OUTSIDE);
        due("SITE 1", m.comes(1), UNKNOWN);
        due("SITE -1", m.shownAt(-1), UNKNOWN);
        m = new MapNames();
        m.map(10, 10);
        m.site(5, 10, 1, 20, 1);
        due("HEIGHT grows too: 20 high at LEVEL 1", m.comes(0), 1);
        due("CORNER 2", m.shownAt(0), 2);
    }

    private static void levelsInOrder() {
        MapNames m = crowd(8);
        for (int site = 0; site < 8; site++) {
            due("of like ones the least SITE", m.comes(site), site < 4 ? 0 : NONE);
            due("the first CORNER that does not CLASH", m.shownAt(site), site < 4 ? site : NONE);
        }
        due("at one place they stay at one", m.shown(5), 4);
        m = new MapNames();
        m.site(50, 50, 10, 10, 98);
        m.site(50, 50, 10, 10, 99);
        due("the greatest first", m.shownAt(1), 0);
        due("then the lesser", m.shownAt(0), 1);
        m = new MapNames();
        for (int worth : new int[] {3, 1, 4, 2, 9, 6, 9, 4}) {
            m.site(50, 50, 10, 10, worth);
        }
        int[] corner = {NONE, NONE, 3, NONE, 0, 2, 1, NONE};
        for (int site = 0; site < 8; site++) {
            due("by WORTH, of like ones the least SITE: SITE " + site, m.shownAt(site), corner[site]);
        }
        m = crowd(0);
        for (int worth = 1; worth <= 8; worth++) {
            m.site(50, 50, 10, 10, worth);
        }
        for (int site = 0; site < 8; site++) {
            due("the last first: SITE " + site, m.shownAt(site), site < 4 ? NONE : 7 - site);
        }
        // 10 apart at LEVEL 0: boxes of 20 that look at each other have room at LEVEL 3.
        m = new MapNames();
        m.site(40, 50, 20, 10, 2);
        m.site(50, 50, 20, 10, 1);
        allowOnly(m, 0, 0);
        allowOnly(m, 1, 1);
        due("20 of 20 at LEVEL 1, 30 of 40 at LEVEL 2", m.comes(1), 3);
        m.rule(1, 1);
        due("GAP 1: 40 of 41 at LEVEL 3", m.comes(1), 4);
        m.rule(1, 20);
        due("GAP 20: 60 of 60 at LEVEL 5", m.comes(1), 5);
        m.move(1, 49, 50);
        due("54 of 60 at LEVEL 5", m.comes(1), NONE);
        // A box of 10 by 10 with the other at 2, 2 from its SITE: on the rim at LEVEL 4.
        m = new MapNames();
        m.site(50, 50, 10, 10, 1);
        m.site(52, 52, 1, 1, 1);
        allowOnly(m, 0, 0);
        allowOnly(m, 1, NONE);
        due("within at 8, on the rim at 10", m.comes(0), 4);
        m.move(1, 51, 51);
        due("within at 6 still", m.comes(0), NONE);
        // Who is SHOWN stays at its CORNER, though CORNER 0 would be FREE later.
        m = alone(10, 100, 10, 50);
        due("20 wide beyond both sides", m.shown(0), 0);
        due("stays at its CORNER", m.shownAt(0), 1);
        m.move(0, 9, 50);
        due("18 at LEVEL 1, but 27 at LEVEL 2", m.comes(0), 2);
    }

    // ---- 4 AT THE EDGE

    private static void edgeHeights() {
        for (int height : new int[] {10, 11, 100, 397, 400}) {
            for (int lines = 1; lines <= 6; lines++) {
                MapNames m = new MapNames();
                m.map(50, height);
                for (int k = 0; k < lines; k++) {
                    m.site(50, k * height / lines, 1, 1, 1);
                }
                int set = (1 << lines) - 1;
                String sentence = lines + " places at HEIGHT " + height;
                due(sentence + ", no LINE goes anywhere", m.length(set), 0);
                due(sentence + ", no two CROSS", m.crosses(set), 0);
                for (int k = 0; k < lines; k++) {
                    due(sentence + ", place " + k, m.place(set, k), k);
                }
            }
        }
    }

    private static void edgeSets() {
        MapNames m = eight();
        due("no SITE of them", m.crosses(0), 0);
        due("no SITE of them", m.length(0), 0);
        due("no SITE of them", m.place(0, 0), UNKNOWN);
        due("the first six", m.place(0x3F, 5) >= 0 ? 1 : 0, 1);
        due("the last six", m.place(0xFC, 7) >= 0 ? 1 : 0, 1);
        due("not of the last six", m.place(0xFC, 1), UNKNOWN);
        due("not of the first six", m.place(0x3F, 6), UNKNOWN);
        // All at y 200; of one alone the place is at height 0.
        due("the last alone", m.length(0x80), 200 + 400 - 320);
        due("the last alone", m.place(0x80, 7), 0);
        for (int away = 0; away < 8; away++) {
            int seven = 0xFF & ~(1 << away);
            due("more than 6: crosses", m.crosses(seven), OUTSIDE);
            due("more than 6: length", m.length(seven), OUTSIDE);
            due("more than 6: place", m.place(seven, (away + 1) % 8), OUTSIDE);
        }
        due("eight", m.crosses(0xFF), OUTSIDE);
        due("a bit is no SITE", m.crosses(0x100), OUTSIDE);
        due("a bit is no SITE, though others are", m.length(0x101), OUTSIDE);
        due("all bits", m.place(-1, 0), OUTSIDE);
        due("the last bit", m.crosses(Integer.MIN_VALUE), OUTSIDE);
        due("all but the last bit", m.length(Integer.MAX_VALUE), OUTSIDE);
        due("OUTSIDE before UNKNOWN", m.place(0x100, 9), OUTSIDE);
        m = crowd(6);
        due("all six at one place CROSS", m.crosses(0x3F), 15);
        // Heights 0, 16, 33, 50, 66, 83.
        due("all six at one place", m.length(0x3F), 6 * 50 + 50 + 34 + 17 + 16 + 33);
        for (int site = 0; site < 6; site++) {
            due("of like ones SITE by SITE the least place", m.place(0x3F, site), site);
        }
        due("a bit is no SITE: the seventh", m.crosses(0x40), OUTSIDE);
    }

    /** Whether the LINE of a SITE at 50, 50 to 20 and that of one at x, y to a height CROSS. */
    private static int crossOf(int x, int y, int height) {
        MapNames m = new MapNames();
        m.site(50, 50, 1, 1, 1);
        m.site(x, y, 1, 1, 1);
        int one = m.cross(0, 20, 1, height);
        due("the other way round", m.cross(1, height, 0, 20), one);
        return one;
    }

    private static void lines() {
        due("a point on both: the end of the first part", crossOf(30, 20, 20), 1);
        due("along x through the SITE", crossOf(30, 60, 50), 1);
        due("along x 1 beyond the SITE", crossOf(30, 60, 51), 0);
        due("along x 1 before the bend", crossOf(30, 10, 19), 0);
        due("along x 1 behind the bend", crossOf(30, 10, 21), 1);
        due("the bend at the first part", crossOf(50, 60, 50), 1);
        due("at one x, 1 apart", crossOf(50, 60, 51), 0);
        due("at one x, 1 apart below", crossOf(50, 10, 19), 0);
        due("at one x, all of it within", crossOf(50, 40, 30), 1);
        due("its SITE on the other's second part", crossOf(51, 20, 10), 1);
        due("its SITE 1 below the other's second part", crossOf(51, 19, 10), 0);
        due("its SITE on the other's second part, upwards", crossOf(51, 20, 30), 1);
        due("its SITE 1 above the other's second part", crossOf(51, 21, 30), 0);
        due("its bend on the other's second part", crossOf(51, 0, 20), 1);
        due("its bend 1 below", crossOf(51, 0, 19), 0);
        due("through the other's second part", crossOf(51, 21, 19), 1);
        due("1 to the left of the first part", crossOf(49, 21, 19), 0);
        due("at WIDTH, through the last point", crossOf(100, 21, 19), 1);
        due("at WIDTH, on the last point", crossOf(100, 20, 20), 1);
        due("at WIDTH, 1 beyond the last point", crossOf(100, 21, 21), 0);
        for (int height : new int[] {10, 400}) {
            MapNames m = new MapNames();
            m.map(100, height);
            m.site(0, 0, 1, 1, 1);
            m.site(100, height, 1, 1, 1);
            due("heights 0 and HEIGHT", m.cross(0, 0, 1, height), 0);
            due("heights HEIGHT and 0", m.cross(0, height, 1, 0), 1);
            due("height beyond HEIGHT", m.cross(0, height + 1, 1, 0), OUTSIDE);
            due("height -1", m.cross(0, -1, 1, 0), OUTSIDE);
            due("other beyond HEIGHT", m.cross(0, 0, 1, height + 1), OUTSIDE);
            due("other -1", m.cross(0, 0, 1, -1), OUTSIDE);
            due("both are one", m.cross(1, 0, 1, height), MapNames.STATE);
            due("OUTSIDE before STATE", m.cross(1, -1, 1, 0), OUTSIDE);
            due("UNKNOWN before OUTSIDE", m.cross(2, -1, 2, -1), UNKNOWN);
        }
        due("as LONG as that: from 0, 0", alone(400, 400, 0, 0).length(1), 400);
        due("from 0, HEIGHT", alone(400, 400, 0, 400).length(1), 800);
        due("from WIDTH, 0", alone(400, 400, 400, 0).length(1), 0);
        due("from WIDTH, HEIGHT", alone(10, 10, 10, 10).length(1), 10);
    }

    /** Two SITES at these places on a MAP of 100 by 100: their places are at 0 and at 50. */
    private static MapNames pair(int x0, int y0, int x1, int y1) {
        MapNames m = new MapNames();
        m.site(x0, y0, 1, 1, 1);
        m.site(x1, y1, 1, 1, 1);
        return m;
    }

    private static void bestDeal() {
        // At 25 both DEALS are as LONG; at 26 the nearer one goes up.
        due("of like ones the least place", pair(50, 25, 80, 25).place(3, 0), 0);
        due("1 shorter", pair(50, 26, 80, 25).place(3, 0), 1);
        due("1 shorter the other way", pair(50, 25, 80, 26).place(3, 0), 0);
        due("1 shorter", pair(50, 26, 80, 25).length(3), 50 + 20 + 24 + 25);
        // SITE 0 straight to 50 would meet SITE 1 on its way from 60 to 0, SITE 1 straight up meets nothing.
        due("fewest pairs first, though longer", pair(20, 50, 80, 60).place(3, 0), 0);
        due("no pair", pair(20, 50, 80, 60).crosses(3), 0);
        due("so it is LONGER", pair(20, 50, 80, 60).length(3), 80 + 50 + 20 + 10);
        due("a pair that CROSSES in each DEAL", pair(50, 50, 50, 50).crosses(3), 1);
        due("of like ones the least place still", pair(50, 50, 50, 50).place(3, 0), 0);
        due("and the other", pair(50, 50, 50, 50).place(3, 1), 1);
        due("as many as they are: alone at 0", pair(20, 50, 80, 60).place(2, 1), 0);
    }

    // ---- no SITE, and as many as there may be

    private static void noSites() {
        noSites(new MapNames(), "a new object");
    }

    private static void noSitesAnyMore() {
        MapNames m = eight();
        m.take();
        m.map(100, 100);
        noSites(m, "another MAP");
        m = new MapNames();
        m.site(1, 1, 1, 1, 0);
        m.site(101, 1, 1, 1, 1);
        noSites(m, "refused SITES");
    }

    private static void noSites(MapNames m, String when) {
        due(when + ": SITES", m.count(0), 0);
        due(when + ": FREE CORNERS", m.count(3), 0);
        due(when + ": pairs that CLASH", m.count(4), 0);
        due(when + ": best", m.best(), 0);
        due(when + ": at", m.at(0), UNKNOWN);
        due(when + ": named", m.named(), 0);
        due(when + ": full", m.full(), 1);
        due(when + ": with", m.with(0, 0), UNKNOWN);
        due(when + ": sure", m.sure(0), UNKNOWN);
        due(when + ": greatest", m.greatest(), 40);
        due(when + ": least", m.least(), 0);
        due(when + ": move", m.move(0, 0, 0), UNKNOWN);
        due(when + ": allow", m.allow(0, 0, true), UNKNOWN);
        due(when + ": about", m.about(0, 0), UNKNOWN);
        due(when + ": free", m.free(0, 0), UNKNOWN);
        due(when + ": clash", m.clash(0, 0, 0, 0), UNKNOWN);
        due(when + ": put", m.put(0, 0), UNKNOWN);
        due(when + ": hand", m.hand(0), UNKNOWN);
        due(when + ": take", m.take(), 0);
        due(when + ": faults", m.faults(), 0);
        due(when + ": faultsOf", m.faultsOf(0), UNKNOWN);
        due(when + ": stir", m.stir(), NONE);
        due(when + ": settle", m.settle(), 0);
        due(when + ": stands", m.stands(), 1);
        due(when + ": shown at the first", m.shown(0), 0);
        due(when + ": shown at the last", m.shown(5), 0);
        due(when + ": comes", m.comes(0), UNKNOWN);
        due(when + ": shownAt", m.shownAt(0), UNKNOWN);
        due(when + ": crosses of none", m.crosses(0), 0);
        due(when + ": crosses of one", m.crosses(1), OUTSIDE);
        due(when + ": length of none", m.length(0), 0);
        due(when + ": length of one", m.length(1), OUTSIDE);
        due(when + ": place in none", m.place(0, 0), UNKNOWN);
        due(when + ": place in one", m.place(1, 0), OUTSIDE);
        due(when + ": cross", m.cross(0, 0, 0, 0), UNKNOWN);
        due(when + ": the first SITE", m.site(0, 0, 1, 1, 1), 0);
    }

    private static void eightSites() {
        MapNames m = eight();
        due("eight: SITES", m.count(0), 8);
        due("eight: FREE CORNERS", m.count(3), 32);
        due("eight: pairs that CLASH", m.count(4), 0);
        due("eight: best", m.best(), 792);
        due("eight: named", m.named(), 8);
        due("eight: at the last", m.at(7), 0);
        due("eight: sure of the last", m.sure(7), NONE);
        // 40 wide by 40 high towards each other, or one to the left and one to the right.
        due("eight: greatest", m.greatest(), 40);
        due("eight: least", m.least(), 0);
        due("eight: shown at LEVEL 0", m.shown(0), 8);
        due("eight: the ninth", m.site(0, 0, 1, 1, 1), FULL);
        for (int site = 0; site < 8; site++) {
            allowOnly(m, site, NONE);
        }
        due("none ALLOWED: FREE CORNERS", m.count(3), 0);
        due("none ALLOWED: best", m.best(), 0);
        due("none ALLOWED: named", m.named(), 0);
        due("none ALLOWED: at the last", m.at(7), NONE);
        due("none ALLOWED: full", m.full(), 0);
        due("none ALLOWED: with the last", m.with(7, 0), 0);
        due("none ALLOWED: sure of the last", m.sure(7), NONE);
        due("none ALLOWED: greatest", m.greatest(), NONE);
        due("none ALLOWED: least", m.least(), 792);
        due("none ALLOWED: shown at LEVEL 5", m.shown(5), 0);
        due("none ALLOWED: comes", m.comes(7), NONE);
        m.allow(7, 3, true);
        due("one ALLOWED: best", m.best(), 99);
        due("one ALLOWED: at the last", m.at(7), 3);
        due("one ALLOWED: full", m.full(), 0);
        due("one ALLOWED: least", m.least(), 693);
        due("one ALLOWED: shown", m.shown(0), 1);
    }

    private static void eightSitesByHand() {
        MapNames m = crowd(8);
        for (int site = 0; site < 8; site++) {
            m.put(site, 2);
            allowOnly(m, site, NONE);
        }
        due("8 not FREE and 28 pairs", m.faults(), 36);
        due("itself and 7 pairs", m.faultsOf(7), 8);
        due("itself and 7 pairs", m.faultsOf(0), 8);
        due("STANDS", m.stands(), 0);
        due("7 pairs fewer", m.stir(), 0);
        due("28 less 7 and 8", m.faults(), 29);
        // Two more go to CORNERS 1 and 3, then the rest is spread till each CORNER has two.
        due("six go from CORNER 2 in all", m.settle(), 5);
        due("8 and a pair at each CORNER", m.faults(), 12);
        due("all are otherwise", m.take(), 8);
        due("NONE for all", m.hand(7), NONE);
        due("STANDS then", m.stands(), 1);
    }

    // ---- promises with bounds of their own

    private static void move() {
        MapNames m = alone(400, 400, 0, 0);
        due("x times 1000 and y: the least", m.move(0, 400, 400), 0);
        due("x times 1000 and y: the greatest", m.move(0, 0, 400), 400400);
        due("x times 1000 and y: y alone", m.move(0, 400, 0), 400);
        due("x times 1000 and y: x alone", m.move(0, 400, 0), 400000);
        due("beyond WIDTH", m.move(0, 401, 0), OUTSIDE);
        due("beyond HEIGHT", m.move(0, 0, 401), OUTSIDE);
        due("x -1", m.move(0, -1, 0), OUTSIDE);
        due("y -1", m.move(0, 0, -1), OUTSIDE);
        due("SITE 1", m.move(1, 0, 0), UNKNOWN);
        due("SITE -1", m.move(-1, 0, 0), UNKNOWN);
        due("UNKNOWN before OUTSIDE", m.move(1, -1, 401), UNKNOWN);
        due("stays after all these", m.move(0, 1, 1), 400000);
    }

    private static void about() {
        MapNames m = new MapNames();
        m.site(100, 99, 60, 19, 98);
        due("the first", m.about(0, 0), 100);
        due("the last as told", m.about(0, 4), 98);
        due("the last", m.about(0, 6), 19);
        due("before the first", m.about(0, -1), OUTSIDE);
        due("behind the last", m.about(0, 7), OUTSIDE);
        due("SITE 1", m.about(1, 6), UNKNOWN);
        due("UNKNOWN before OUTSIDE", m.about(1, 7), UNKNOWN);
        m.rule(0, 40);
        due("wide as told", m.about(0, 2), 60);
        due("wide now", m.about(0, 5), 240);
        due("high as told", m.about(0, 3), 19);
        due("high now", m.about(0, 6), 76);
    }

    private static void sure() {
        MapNames m = crowd(4);
        for (int site = 0; site < 3; site++) {
            allowOnly(m, site, site);
        }
        due("what the others leave", m.sure(3), 3);
        due("CORNER 0 in all of them", m.sure(0), 0);
        m.allow(0, 3, true);
        due("two of them: it differs", m.sure(3), NONE);
        due("two of them: it differs", m.sure(0), NONE);
        due("two of them: the same", m.sure(1), 1);
        m.site(50, 50, 10, 10, 1);
        due("there are none", m.sure(1), NONE);
        due("SITE 5", m.sure(5), UNKNOWN);
        due("SITE -1", m.sure(-1), UNKNOWN);
    }

    private static void greatest() {
        MapNames m = new MapNames();
        m.map(80, 100);
        m.site(0, 50, 20, 1, 1);
        due("80 of 80 at SIZE 40", m.greatest(), 40);
        m.move(0, 1, 50);
        due("78 of 79 at SIZE 39", m.greatest(), 39);
        m.rule(0, 1);
        due("whatever SIZE is", m.greatest(), 39);
        due("SIZE stays", m.rule(0, 40), 1);
        due("whatever SIZE is", m.greatest(), 39);
        due("SIZE stays", m.rule(0, 10), 40);
        m.map(10, 10);
        m.site(4, 5, 60, 1, 1);
        due("6 of 6 at SIZE 1", m.greatest(), 1);
        m.move(0, 5, 5);
        due("6 of 5 at SIZE 1", m.greatest(), NONE);
        // A greater SIZE may cover another SITE, and a yet greater one cannot uncover it.
        m = new MapNames();
        m.site(50, 50, 10, 10, 1);
        m.site(59, 59, 10, 10, 1);
        allowOnly(m, 0, 0);
        allowOnly(m, 1, 0);
        due("on the rim at SIZE 9, but the boxes do not CLASH", m.greatest(), 9);
        m.rule(1, 1);
        due("GAP 1", m.greatest(), 8);
        m.rule(1, 9);
        due("GAP 9: none, as boxes are 1 at least", m.greatest(), NONE);
        m.rule(1, 8);
        due("GAP 8", m.greatest(), 1);
    }

    private static void least() {
        MapNames m = crowd(4);
        due("0: none", m.least(), 0);
        m.site(50, 50, 10, 10, 1);
        due("one of five", m.least(), 1);
        m.rule(1, 1);
        due("four of five", m.least(), 4);
        m = new MapNames();
        m.site(50, 50, 10, 10, 98);
        m.site(50, 50, 10, 10, 99);
        m.rule(1, 1);
        due("the least WORTH", m.least(), 98);
        allowOnly(m, 1, NONE);
        due("the one that has no CORNER", m.least(), 99);
        allowOnly(m, 0, NONE);
        due("both", m.least(), 197);
        // SITE 0 lies in the only box that SITE 1 may have, till it is taken away.
        m = new MapNames();
        m.map(20, 10);
        m.site(19, 9, 1, 1, 1);
        m.site(0, 0, 20, 10, 99);
        due("what is taken away covers nothing", m.least(), 1);
        m.move(0, 20, 9);
        due("on the rim, and its boxes CLASH", m.least(), 1);
        m.map(40, 10);
        m.site(20, 9, 1, 1, 1);
        m.site(0, 0, 20, 10, 99);
        due("on the rim, and one of its boxes does not", m.least(), 0);
    }

    private static void take() {
        MapNames m = crowd(5);
        due("NONE stays NONE: four are otherwise", m.take(), 4);
        due("none is otherwise", m.take(), 0);
        m.put(4, 0);
        due("from a CORNER to NONE", m.take(), 1);
        due("NONE then", m.hand(4), NONE);
        m.put(0, NONE);
        due("from NONE to a CORNER", m.take(), 1);
        m.put(0, 3);
        due("from one CORNER to another", m.take(), 1);
        due("CORNER 0 then", m.hand(0), 0);
    }

    private static void count() {
        MapNames m = crowd(8);
        due("all at one place: FREE CORNERS", m.count(3), 32);
        due("at like CORNERS: 28 pairs of SITES, 4 CORNERS", m.count(4), 112);
        m.rule(1, 1);
        due("with GAP 1 all of them: 28 times 16", m.count(4), 448);
        due("what -1", m.count(-1), OUTSIDE);
        due("what 5", m.count(5), OUTSIDE);
        allowOnly(m, 0, NONE);
        due("FREE ones alone", m.count(3), 28);
        due("pairs of FREE ones alone", m.count(4), 21 * 16);
        m = crowd(1);
        due("of one SITE", m.count(4), 0);
        due("CORNERS of one SITE", m.count(3), 4);
    }
}
