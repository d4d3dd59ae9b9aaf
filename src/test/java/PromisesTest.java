/**
 * Each promise of ../shared/DOC.md by its number: ordinary inputs, the edges that the document
 * names, and each refusal with the order of refusals. The answers are worked out by hand.
 */
public final class PromisesTest {
    private static final int UNKNOWN = -1, OUTSIDE = -2, STATE = -3, FULL = -4, NONE = -9;
    private static final int[] FAR = {Integer.MIN_VALUE, Integer.MAX_VALUE};
    private static final int[] NO_SITE = {Integer.MIN_VALUE, -33, -9, -1, 2, 8, 34, Integer.MAX_VALUE};
    private static final int[] NO_CORNER = {Integer.MIN_VALUE, -9, -1, 4, 32, Integer.MAX_VALUE};
    private static int wrong = 0;

    private static void due(int promise, String what, int got, int want) {
        if (got != want) {
            wrong++;
            System.out.println("promise " + promise + ": " + what + " answered " + got + ", due is " + want);
        }
    }

    public static void main(String[] args) {
        constants();
        newObject();
        map();
        site();
        move();
        allow();
        rule();
        about();
        free();
        freeOfOtherSites();
        clash();
        best();
        bestByOrder();
        at();
        named();
        full();
        with();
        sure();
        greatest();
        least();
        put();
        hand();
        take();
        faults();
        faultsOf();
        stir();
        settle();
        stands();
        shown();
        comes();
        shownAt();
        crosses();
        length();
        place();
        cross();
        count();
        eightSites();
        manyCalls();
        System.out.println(wrong == 0 ? "all promises hold" : wrong + " answers are not as due");
        if (wrong != 0) {
            System.exit(1);
        }
    }

    /** SITE 0 at 50, 50 with a name of 20 by 10, and SITE 1 far from it. */
    private static MapNames two() {
        MapNames m = new MapNames();
        m.site(50, 50, 20, 10, 5);
        m.site(10, 90, 8, 4, 3);
        return m;
    }

    /** A MAP of 10 by 10 with two names that fill it: SITE 0 at CORNER 0 alone, SITE 1 at CORNER 2 alone. */
    private static MapNames rivals(int worth, int other) {
        MapNames m = new MapNames();
        m.map(10, 10);
        m.site(0, 0, 10, 10, worth);
        m.site(10, 10, 10, 10, other);
        return m;
    }

    private static void constants() {
        due(0, "UNKNOWN", MapNames.UNKNOWN, UNKNOWN);
        due(0, "OUTSIDE", MapNames.OUTSIDE, OUTSIDE);
        due(0, "STATE", MapNames.STATE, STATE);
        due(0, "FULL", MapNames.FULL, FULL);
        due(0, "NONE", MapNames.NONE, NONE);
    }

    private static void newObject() {
        MapNames m = new MapNames();
        due(1, "SITES", m.count(0), 0);
        due(1, "WIDTH", m.count(1), 100);
        due(1, "HEIGHT", m.count(2), 100);
        due(1, "FREE CORNERS", m.count(3), 0);
        due(1, "CLASHES", m.count(4), 0);
        due(1, "about(0, 0)", m.about(0, 0), UNKNOWN);
        due(1, "best()", m.best(), 0);
        due(1, "named()", m.named(), 0);
        due(1, "full(): the empty LAYOUT", m.full(), 1);
        due(1, "greatest()", m.greatest(), 40);
        due(1, "least()", m.least(), 0);
        due(1, "take()", m.take(), 0);
        due(1, "faults()", m.faults(), 0);
        due(1, "stir()", m.stir(), NONE);
        due(1, "settle()", m.settle(), 0);
        due(1, "stands()", m.stands(), 1);
        due(1, "shown(5)", m.shown(5), 0);
        due(1, "crosses(0)", m.crosses(0), 0);
        due(1, "crosses(1)", m.crosses(1), OUTSIDE);
        due(1, "SIZE", m.rule(0, 10), 10);
        due(1, "GAP", m.rule(1, 0), 0);
    }

    private static void map() {
        MapNames m = two();
        m.put(0, 1);
        m.allow(0, 2, false);
        for (int bad : new int[] {9, 401, 0, -1, Integer.MIN_VALUE, Integer.MAX_VALUE}) {
            due(2, "width " + bad, m.map(bad, 50), OUTSIDE);
            due(2, "height " + bad, m.map(50, bad), OUTSIDE);
        }
        due(2, "SITES after refusals", m.count(0), 2);
        due(2, "WIDTH after refusals", m.count(1), 100);
        due(2, "HEIGHT after refusals", m.count(2), 100);
        m.rule(0, 20);
        m.rule(1, 7);
        due(2, "map(10, 400)", m.map(10, 400), 1);
        due(2, "SITES", m.count(0), 0);
        due(2, "WIDTH", m.count(1), 10);
        due(2, "HEIGHT", m.count(2), 400);
        due(2, "hand(0)", m.hand(0), UNKNOWN);
        due(2, "map(400, 10)", m.map(400, 10), 1);
        due(2, "WIDTH", m.count(1), 400);
        due(2, "HEIGHT", m.count(2), 10);
        due(2, "a SITE again", m.site(50, 5, 2, 2, 1), 0);
        due(2, "its HAND", m.hand(0), NONE);
        due(2, "its CORNER 2", m.allow(0, 2, true), 1);
        due(2, "SIZE is as it was", m.rule(0, 10), 20);
        due(2, "GAP is as it was", m.rule(1, 0), 7);
    }

    private static void site() {
        MapNames m = new MapNames();
        m.map(30, 40);
        for (int far : FAR) {
            due(3, "x " + far, m.site(far, 0, 1, 1, 1), OUTSIDE);
            due(3, "y " + far, m.site(0, far, 1, 1, 1), OUTSIDE);
            due(3, "wide " + far, m.site(0, 0, far, 1, 1), OUTSIDE);
            due(3, "high " + far, m.site(0, 0, 1, far, 1), OUTSIDE);
            due(3, "worth " + far, m.site(0, 0, 1, 1, far), OUTSIDE);
        }
        due(3, "x -1", m.site(-1, 0, 1, 1, 1), OUTSIDE);
        due(3, "x 31", m.site(31, 0, 1, 1, 1), OUTSIDE);
        due(3, "y -1", m.site(0, -1, 1, 1, 1), OUTSIDE);
        due(3, "y 41", m.site(0, 41, 1, 1, 1), OUTSIDE);
        due(3, "wide 0", m.site(0, 0, 0, 1, 1), OUTSIDE);
        due(3, "wide 61", m.site(0, 0, 61, 1, 1), OUTSIDE);
        due(3, "high 0", m.site(0, 0, 1, 0, 1), OUTSIDE);
        due(3, "high 21", m.site(0, 0, 1, 21, 1), OUTSIDE);
        due(3, "worth 0", m.site(0, 0, 1, 1, 0), OUTSIDE);
        due(3, "worth 100", m.site(0, 0, 1, 1, 100), OUTSIDE);
        due(3, "SITES after refusals", m.count(0), 0);
        due(3, "least of all", m.site(0, 0, 1, 1, 1), 0);
        due(3, "greatest of all", m.site(30, 40, 60, 20, 99), 1);
        due(3, "the same place", m.site(30, 40, 60, 20, 99), 2);
        for (int site = 3; site < 8; site++) {
            due(3, "SITE " + site, m.site(site, site, 2, 2, 2), site);
            due(3, "SITES", m.count(0), site + 1);
        }
        due(3, "the ninth", m.site(1, 1, 1, 1, 1), FULL);
        due(3, "the ninth, OUTSIDE", m.site(31, 1, 1, 1, 1), OUTSIDE);
        due(3, "SITES after FULL", m.count(0), 8);
        due(3, "new in THE HAND", m.hand(7), NONE);
        for (int corner = 0; corner < 4; corner++) {
            due(3, "new is ALLOWED", m.allow(7, corner, true), 1);
        }
    }

    private static void move() {
        MapNames m = two();
        m.put(0, 1);
        m.allow(0, 3, false);
        for (int no : NO_SITE) {
            due(4, "SITE " + no, m.move(no, 1, 1), UNKNOWN);
            due(4, "SITE " + no + ", OUTSIDE too", m.move(no, -1, 101), UNKNOWN);
        }
        for (int bad : new int[] {-1, 101, Integer.MIN_VALUE, Integer.MAX_VALUE}) {
            due(4, "x " + bad, m.move(0, bad, 1), OUTSIDE);
            due(4, "y " + bad, m.move(0, 1, bad), OUTSIDE);
        }
        due(4, "as they were", m.move(0, 100, 0), 50050);
        due(4, "x", m.about(0, 0), 100);
        due(4, "y", m.about(0, 1), 0);
        due(4, "as they were", m.move(0, 0, 100), 100000);
        due(4, "as they were", m.move(0, 3, 4), 100);
        due(4, "as they were", m.move(0, 3, 4), 3004);
        due(4, "the other one", m.move(1, 3, 4), 10090);
        due(4, "wide stays", m.about(0, 2), 20);
        due(4, "THE HAND stays", m.hand(0), 1);
        due(4, "ALLOWED stays", m.allow(0, 3, false), 0);
    }

    private static void allow() {
        MapNames m = two();
        for (int no : NO_SITE) {
            due(5, "SITE " + no, m.allow(no, 0, false), UNKNOWN);
            due(5, "SITE " + no + ", OUTSIDE too", m.allow(no, 4, false), UNKNOWN);
        }
        for (int no : NO_CORNER) {
            due(5, "CORNER " + no, m.allow(0, no, false), OUTSIDE);
        }
        for (int corner = 0; corner < 4; corner++) {
            due(5, "as at first", m.allow(0, corner, false), 1);
            due(5, "no more", m.allow(0, corner, false), 0);
            due(5, "not FREE", m.free(0, corner), 0);
            due(5, "again", m.allow(0, corner, true), 0);
            due(5, "FREE", m.free(0, corner), 1);
        }
        due(5, "the other SITE", m.allow(1, 0, true), 1);
    }

    private static void rule() {
        MapNames m = two();
        for (int bad : new int[] {0, 41, -1, Integer.MIN_VALUE, Integer.MAX_VALUE}) {
            due(6, "SIZE " + bad, m.rule(0, bad), OUTSIDE);
        }
        for (int bad : new int[] {-1, 21, Integer.MIN_VALUE, Integer.MAX_VALUE}) {
            due(6, "GAP " + bad, m.rule(1, bad), OUTSIDE);
        }
        for (int bad : new int[] {-1, 2, Integer.MIN_VALUE, Integer.MAX_VALUE}) {
            due(6, "what " + bad, m.rule(bad, 10), OUTSIDE);
        }
        due(6, "SIZE", m.rule(0, 1), 10);
        due(6, "SIZE", m.rule(0, 40), 1);
        due(6, "SIZE", m.rule(0, 12), 40);
        due(6, "GAP", m.rule(1, 20), 0);
        due(6, "GAP", m.rule(1, 0), 20);
        due(6, "GAP", m.rule(1, 3), 0);
        due(6, "SIZE once more", m.rule(0, 12), 12);
    }

    private static void about() {
        MapNames m = new MapNames();
        m.site(31, 42, 17, 9, 77);
        m.site(1, 2, 1, 1, 4);
        int[] told = {31, 42, 17, 9, 77, 17, 9};
        for (int what = 0; what < 7; what++) {
            due(7, "what " + what, m.about(0, what), told[what]);
        }
        m.rule(0, 15);
        due(7, "17 times 15 by 10", m.about(0, 5), 25);
        due(7, "9 times 15 by 10", m.about(0, 6), 13);
        due(7, "wide as told", m.about(0, 2), 17);
        due(7, "high as told", m.about(0, 3), 9);
        m.rule(0, 1);
        due(7, "17 times 1 by 10", m.about(0, 5), 1);
        due(7, "1 at least wide", m.about(1, 5), 1);
        due(7, "1 at least high", m.about(0, 6), 1);
        m.rule(0, 40);
        due(7, "17 times 40 by 10", m.about(0, 5), 68);
        for (int no : NO_SITE) {
            due(7, "SITE " + no, m.about(no, 0), UNKNOWN);
            due(7, "SITE " + no + ", OUTSIDE too", m.about(no, 7), UNKNOWN);
        }
        for (int bad : new int[] {-1, 7, Integer.MIN_VALUE, Integer.MAX_VALUE}) {
            due(7, "what " + bad, m.about(0, bad), OUTSIDE);
        }
    }

    /** Which CORNERS of a lone SITE are FREE, as the digits of 1000 times CORNER 0 and so on. */
    private static int freeAlone(int x, int y) {
        MapNames m = new MapNames();
        m.site(x, y, 20, 10, 1);
        return 1000 * m.free(0, 0) + 100 * m.free(0, 1) + 10 * m.free(0, 2) + m.free(0, 3);
    }

    private static void free() {
        due(8, "in the middle", freeAlone(50, 50), 1111);
        due(8, "ends with THE MAP at the right", freeAlone(80, 50), 1111);
        due(8, "beyond the right", freeAlone(81, 50), 110);
        due(8, "begins with THE MAP at the left", freeAlone(20, 50), 1111);
        due(8, "beyond the left", freeAlone(19, 50), 1001);
        due(8, "ends with THE MAP at the greatest y", freeAlone(50, 90), 1111);
        due(8, "beyond the greatest y", freeAlone(50, 91), 11);
        due(8, "begins with THE MAP at the least y", freeAlone(50, 10), 1111);
        due(8, "beyond the least y", freeAlone(50, 9), 1100);
        due(8, "at 0, 0", freeAlone(0, 0), 1000);
        due(8, "at 100, 0", freeAlone(100, 0), 100);
        due(8, "at 100, 100", freeAlone(100, 100), 10);
        due(8, "at 0, 100", freeAlone(0, 100), 1);
        MapNames m = two();
        for (int no : NO_SITE) {
            due(8, "SITE " + no, m.free(no, 0), UNKNOWN);
            due(8, "SITE " + no + ", OUTSIDE too", m.free(no, 4), UNKNOWN);
        }
        for (int no : NO_CORNER) {
            due(8, "CORNER " + no, m.free(0, no), OUTSIDE);
        }
        m.rule(0, 25);
        due(8, "50 wide", m.free(0, 0), 1);
        m.rule(0, 26);
        due(8, "52 wide", m.free(0, 0), 0);
        m.map(60, 60);
        m.site(20, 20, 5, 5, 1);
        m.rule(0, 40);
        due(8, "20 by 20", m.free(0, 2), 1);
    }

    /** Whether SITE 0 is FREE at CORNER 0, its box being 50 to 70 by 50 to 60, with another SITE there. */
    private static int freeBeside(int x, int y) {
        MapNames m = two();
        m.move(1, x, y);
        m.put(1, NONE);
        return m.free(0, 0);
    }

    private static void freeOfOtherSites() {
        due(8, "another within", freeBeside(60, 55), 0);
        due(8, "another just within the least", freeBeside(51, 51), 0);
        due(8, "another just within the greatest", freeBeside(69, 59), 0);
        due(8, "another on the left rim", freeBeside(50, 55), 1);
        due(8, "another on the right rim", freeBeside(70, 55), 1);
        due(8, "another on the low rim", freeBeside(60, 50), 1);
        due(8, "another on the high rim", freeBeside(60, 60), 1);
        due(8, "another at the same place", freeBeside(50, 50), 1);
        due(8, "another without in x", freeBeside(71, 55), 1);
        due(8, "another without in y", freeBeside(60, 61), 1);
        due(8, "another without below in x", freeBeside(49, 55), 1);
        due(8, "another without below in y", freeBeside(60, 49), 1);
    }

    /** Whether a box of 20 by 10 at 20 to 40 by 20 to 30 and one of 10 by 5 that begins at x, y CLASH. */
    private static int clashAt(int x, int y, int gap) {
        MapNames m = new MapNames();
        m.site(20, 20, 20, 10, 1);
        m.site(x, y, 10, 5, 1);
        m.rule(1, gap);
        int one = m.clash(0, 0, 1, 0);
        due(9, "the other way round at " + x + ", " + y, m.clash(1, 0, 0, 0), one);
        return one;
    }

    private static void clash() {
        due(9, "one in the other", clashAt(25, 22, 0), 1);
        due(9, "touching at the right", clashAt(40, 22, 0), 0);
        due(9, "1 within at the right", clashAt(39, 22, 0), 1);
        due(9, "touching at the left", clashAt(10, 22, 0), 0);
        due(9, "1 within at the left", clashAt(11, 22, 0), 1);
        due(9, "touching above", clashAt(25, 30, 0), 0);
        due(9, "1 within above", clashAt(25, 29, 0), 1);
        due(9, "touching below", clashAt(25, 15, 0), 0);
        due(9, "1 within below", clashAt(25, 16, 0), 1);
        due(9, "3 apart, GAP 3, right", clashAt(43, 22, 3), 0);
        due(9, "3 apart, GAP 4, right", clashAt(43, 22, 4), 1);
        due(9, "3 apart, GAP 3, left", clashAt(7, 22, 3), 0);
        due(9, "3 apart, GAP 4, left", clashAt(7, 22, 4), 1);
        due(9, "3 apart, GAP 3, above", clashAt(25, 33, 3), 0);
        due(9, "3 apart, GAP 4, above", clashAt(25, 33, 4), 1);
        due(9, "3 apart, GAP 3, below", clashAt(25, 12, 3), 0);
        due(9, "3 apart, GAP 4, below", clashAt(25, 12, 4), 1);
        due(9, "only in x", clashAt(25, 60, 4), 0);
        due(9, "only in y", clashAt(60, 22, 4), 0);
        MapNames m = new MapNames();
        m.site(50, 50, 20, 10, 1);
        m.site(50, 50, 6, 15, 1);
        for (int corner = 0; corner < 4; corner++) {
            for (int other = 0; other < 4; other++) {
                due(9, "round one place", m.clash(0, corner, 1, other), corner == other ? 1 : 0);
            }
        }
        m.allow(0, 0, false);
        due(9, "not ALLOWED", m.clash(0, 0, 1, 0), 1);
        m.move(0, 99, 99);
        m.move(1, 100, 100);
        due(9, "beyond THE MAP", m.clash(0, 0, 1, 0), 1);
        for (int no : NO_SITE) {
            due(9, "a " + no, m.clash(no, 0, 1, 0), UNKNOWN);
            due(9, "b " + no, m.clash(0, 0, no, 0), UNKNOWN);
            due(9, "b " + no + ", OUTSIDE too", m.clash(0, 4, no, 4), UNKNOWN);
            due(9, "both " + no, m.clash(no, 0, no, 0), UNKNOWN);
        }
        for (int no : NO_CORNER) {
            due(9, "corner " + no, m.clash(0, no, 1, 0), OUTSIDE);
            due(9, "other " + no, m.clash(0, 0, 1, no), OUTSIDE);
            due(9, "other " + no + ", STATE too", m.clash(0, 0, 0, no), OUTSIDE);
        }
        due(9, "both are one", m.clash(1, 0, 1, 0), STATE);
        due(9, "both are one at two CORNERS", m.clash(1, 0, 1, 2), STATE);
    }

    private static void best() {
        due(10, "the second is worth more", rivals(4, 5).best(), 5);
        due(10, "the first is worth more", rivals(5, 4).best(), 5);
        due(10, "two are there", two().best(), 8);
        MapNames m = rivals(50, 30);
        m.rule(0, 5);
        due(10, "both small", m.best(), 80);
        m.rule(0, 10);
        m.allow(0, 0, false);
        due(10, "one not ALLOWED", m.best(), 30);
        m.allow(1, 2, false);
        due(10, "none ALLOWED", m.best(), 0);
        due(10, "of one that is worth more than two together", oneAgainstTwo(9).best(), 9);
        due(10, "of two that are worth more than one", oneAgainstTwo(7).best(), 8);
    }

    /** SITE 0 fills THE MAP of 20 by 20, SITES 1 and 2 (worth 4 each) stand at its sides. */
    private static MapNames oneAgainstTwo(int worth) {
        MapNames m = new MapNames();
        m.map(20, 20);
        m.site(0, 0, 20, 20, worth);
        m.site(0, 20, 5, 5, 4);
        m.site(20, 20, 5, 5, 4);
        return m;
    }

    private static void bestByOrder() {
        MapNames m = oneAgainstTwo(8);
        due(10, "of like WORTH", m.best(), 8);
        due(11, "the first LAYOUT has SITE 0 at CORNER 0", m.at(0), 0);
        due(11, "and no SITE 1", m.at(1), NONE);
        due(11, "and no SITE 2", m.at(2), NONE);
        due(12, "so only one", m.named(), 1);
        m = oneAgainstTwo(7);
        due(11, "NONE for SITE 0", m.at(0), NONE);
        due(11, "SITE 1 at its only CORNER", m.at(1), 3);
        due(11, "SITE 2 at its only CORNER", m.at(2), 2);
        due(12, "two of three", m.named(), 2);
    }

    private static void at() {
        due(11, "like ones: the first SITE", rivals(5, 5).at(0), 0);
        due(11, "like ones: not the second", rivals(5, 5).at(1), NONE);
        due(11, "the second is worth more", rivals(4, 5).at(0), NONE);
        due(11, "the second is worth more", rivals(4, 5).at(1), 2);
        MapNames m = two();
        due(11, "the least CORNER", m.at(0), 0);
        m.allow(0, 0, false);
        due(11, "the least CORNER that is FREE", m.at(0), 1);
        due(11, "the other", m.at(1), 0);
        m.move(1, 50, 50);
        due(11, "both at one place", m.at(0), 1);
        due(11, "both at one place", m.at(1), 0);
        m.allow(1, 0, false);
        due(11, "the second gives way", m.at(0), 1);
        due(11, "the second gives way", m.at(1), 2);
        for (int no : NO_SITE) {
            due(11, "SITE " + no, m.at(no), UNKNOWN);
        }
        for (int corner = 0; corner < 4; corner++) {
            m.allow(0, corner, false);
        }
        m.allow(1, 0, true);
        due(11, "no CORNER is FREE", m.at(0), NONE);
        due(11, "the other has its first", m.at(1), 0);
        due(10, "the other alone", m.best(), 3);
    }

    private static void named() {
        due(12, "both", two().named(), 2);
        due(12, "one", rivals(3, 3).named(), 1);
        MapNames m = rivals(3, 3);
        m.allow(0, 0, false);
        m.allow(1, 2, false);
        due(12, "none", m.named(), 0);
    }

    private static void full() {
        due(13, "none", rivals(3, 3).full(), 0);
        MapNames m = new MapNames();
        m.site(50, 50, 10, 10, 1);
        due(13, "one SITE", m.full(), 4);
        m.site(50, 50, 10, 10, 1);
        due(13, "two at one place", m.full(), 12);
        m.site(50, 50, 10, 10, 1);
        due(13, "three at one place", m.full(), 24);
        m.site(50, 50, 10, 10, 1);
        due(13, "four at one place", m.full(), 24);
        m.rule(1, 1);
        due(13, "with a GAP", m.full(), 0);
        m.rule(1, 0);
        m.site(50, 50, 10, 10, 1);
        due(13, "five at one place", m.full(), 0);
        m = new MapNames();
        m.map(400, 400);
        for (int site = 0; site < 8; site++) {
            m.site(100 + 30 * (site % 4), 100 + 30 * (site / 4), 5, 5, 1);
        }
        due(13, "all that eight can have", m.full(), 65536);
        m.allow(7, 3, false);
        due(13, "but for one CORNER", m.full(), 49152);
    }

    private static void with() {
        MapNames m = new MapNames();
        m.site(50, 50, 10, 10, 1);
        m.site(50, 50, 10, 10, 1);
        for (int corner = 0; corner < 4; corner++) {
            due(14, "of 12", m.with(0, corner), 3);
            due(14, "of 12", m.with(1, corner), 3);
        }
        m.allow(1, 0, false);
        due(14, "of 9", m.with(0, 0), 3);
        due(14, "of 9", m.with(0, 3), 2);
        due(14, "of 9", m.with(1, 0), 0);
        due(14, "of 9", m.with(1, 3), 3);
        due(14, "there are none", rivals(3, 3).with(0, 0), 0);
        for (int no : NO_SITE) {
            due(14, "SITE " + no, m.with(no, 0), UNKNOWN);
            due(14, "SITE " + no + ", OUTSIDE too", m.with(no, 4), UNKNOWN);
        }
        for (int no : NO_CORNER) {
            due(14, "CORNER " + no, m.with(0, no), OUTSIDE);
        }
    }

    private static void sure() {
        MapNames m = new MapNames();
        m.site(50, 50, 10, 10, 1);
        m.site(50, 50, 10, 10, 1);
        due(15, "it differs", m.sure(0), NONE);
        for (int corner = 0; corner < 3; corner++) {
            m.allow(1, corner, false);
        }
        due(15, "the only one", m.sure(1), 3);
        due(15, "it differs still", m.sure(0), NONE);
        m.allow(0, 0, false);
        m.allow(0, 2, false);
        due(15, "what the other leaves", m.sure(0), 1);
        m.allow(0, 0, true);
        due(15, "it differs: CORNERS 0 and 1", m.sure(0), NONE);
        m.allow(0, 1, false);
        due(15, "CORNER 0", m.sure(0), 0);
        m.allow(0, 0, false);
        due(15, "there are none", m.sure(0), NONE);
        due(15, "there are none", m.sure(1), NONE);
        for (int no : NO_SITE) {
            due(15, "SITE " + no, m.sure(no), UNKNOWN);
        }
    }

    private static void greatest() {
        MapNames m = new MapNames();
        m.site(50, 50, 10, 10, 1);
        due(16, "40 and more would do", m.greatest(), 40);
        m.move(0, 39, 39);
        due(16, "away from the edges", m.greatest(), 40);
        m.allow(0, 0, false);
        m.allow(0, 1, false);
        m.allow(0, 3, false);
        due(16, "to the edge at 39", m.greatest(), 39);
        m.rule(0, 3);
        m.rule(1, 20);
        due(16, "whatever SIZE is now", m.greatest(), 39);
        due(16, "SIZE stays", m.rule(0, 3), 3);
        m.site(0, 0, 10, 10, 1);
        // SITE 1 has 0 to SIZE, SITE 0 has 39 - SIZE to 39, 20 apart: twice SIZE is 19 at most.
        due(16, "with a GAP of 20", m.greatest(), 9);
        m.rule(1, 0);
        due(16, "with no GAP", m.greatest(), 19);
        m.allow(0, 2, false);
        due(16, "no CORNER", m.greatest(), NONE);
        m = new MapNames();
        m.map(10, 10);
        m.site(1, 1, 60, 20, 1);
        // wide is 9 at most to the right: 60 times SIZE by 10 is 6 at SIZE 1.
        due(16, "the least SIZE", m.greatest(), 1);
        m.site(2, 2, 60, 20, 1);
        due(16, "none for two", m.greatest(), NONE);
    }

    private static void least() {
        due(17, "none", two().least(), 0);
        due(17, "the lesser of two", rivals(4, 5).least(), 4);
        due(17, "the lesser of two", rivals(5, 4).least(), 4);
        due(17, "one for two", oneAgainstTwo(7).least(), 7);
        due(17, "two for one", oneAgainstTwo(9).least(), 8);
        MapNames m = rivals(4, 5);
        m.allow(0, 0, false);
        m.allow(1, 2, false);
        due(17, "both", m.least(), 9);
        m = three();
        for (int corner = 1; corner < 4; corner++) {
            m.allow(2, corner, false);
        }
        due(17, "two leave the first CORNER to the third", m.least(), 0);
        due(16, "they do at each SIZE", m.greatest(), 40);
        due(15, "in each FULL LAYOUT", m.sure(2), 0);
        due(11, "in the best too", m.at(2), 0);
        due(11, "so the first goes on", m.at(0), 1);
        // SITE 0 lies in the only box that SITE 1 may have: with SITE 0 away it is covered no more.
        m = new MapNames();
        m.map(10, 10);
        m.site(5, 5, 1, 1, 1);
        m.site(0, 0, 10, 10, 9);
        due(17, "a SITE that is away covers nothing", m.least(), 1);
        due(10, "but a SITE without a CORNER does", m.best(), 1);
    }

    private static void put() {
        MapNames m = two();
        for (int no : NO_SITE) {
            due(18, "SITE " + no, m.put(no, 0), UNKNOWN);
            due(18, "SITE " + no + ", OUTSIDE too", m.put(no, 4), UNKNOWN);
        }
        due(18, "where it was", m.put(0, 3), NONE);
        for (int no : new int[] {-1, 4, -8, -10, 9, Integer.MIN_VALUE, Integer.MAX_VALUE}) {
            due(18, "CORNER " + no, m.put(0, no), OUTSIDE);
        }
        due(18, "where it was", m.put(0, 0), 3);
        due(18, "where it was", m.put(0, 2), 0);
        due(18, "where it was", m.put(0, 1), 2);
        due(18, "NONE", m.put(0, NONE), 1);
        due(18, "NONE again", m.put(0, NONE), NONE);
        due(18, "the other", m.put(1, 1), NONE);
        m.allow(0, 0, false);
        due(18, "one that is not FREE", m.put(0, 0), NONE);
        due(18, "it is put", m.hand(0), 0);
    }

    private static void hand() {
        MapNames m = two();
        due(19, "at first", m.hand(0), NONE);
        m.put(0, 3);
        due(19, "as put", m.hand(0), 3);
        due(19, "the other", m.hand(1), NONE);
        m.put(0, 7);
        due(19, "as before the refusal", m.hand(0), 3);
        m.rule(0, 40);
        m.allow(0, 3, false);
        due(19, "as put, though not FREE", m.hand(0), 3);
        for (int no : NO_SITE) {
            due(19, "SITE " + no, m.hand(no), UNKNOWN);
        }
    }

    private static void take() {
        MapNames m = rivals(4, 5);
        m.put(0, 0);
        due(20, "both otherwise", m.take(), 2);
        due(20, "SITE 0", m.hand(0), NONE);
        due(20, "SITE 1", m.hand(1), 2);
        due(20, "none otherwise", m.take(), 0);
        m.put(1, 0);
        due(20, "one otherwise", m.take(), 1);
        due(20, "SITE 1 again", m.hand(1), 2);
        m = two();
        due(20, "from NONE", m.take(), 2);
        due(20, "stands", m.stands(), 1);
    }

    /** Three SITES at one place, the boxes of 10 by 10. */
    private static MapNames three() {
        MapNames m = new MapNames();
        for (int site = 0; site < 3; site++) {
            m.site(50, 50, 10, 10, 1);
        }
        return m;
    }

    /** Two SITES, the one so far right of the other and 1 higher, the boxes of 20 by 10 both at CORNER 0. */
    private static MapNames apart(int x) {
        MapNames m = new MapNames();
        m.site(40, 40, 20, 10, 1);
        m.site(40 + x, 41, 20, 10, 1);
        m.put(0, 0);
        m.put(1, 0);
        return m;
    }

    private static void faults() {
        due(21, "8 apart: a pair, and one covered", apart(8).faults(), 2);
        due(21, "20 apart", apart(20).faults(), 0);
        MapNames m = three();
        due(21, "none has a CORNER", m.faults(), 0);
        m.put(0, 1);
        due(21, "one has", m.faults(), 0);
        m.put(1, 1);
        due(21, "a pair", m.faults(), 1);
        m.put(2, 1);
        due(21, "three pairs", m.faults(), 3);
        m.allow(2, 1, false);
        due(21, "and one not ALLOWED", m.faults(), 4);
        m.put(2, NONE);
        due(21, "but it has none", m.faults(), 1);
        m.move(0, 5, 5);
        due(21, "beyond THE MAP", m.faults(), 1);
        m.move(2, 45, 55);
        due(21, "and another covered", m.faults(), 2);
        m.rule(0, 5);
        due(21, "small ones", m.faults(), 0);
    }

    private static void faultsOf() {
        MapNames m = three();
        m.put(0, 1);
        m.put(1, 1);
        due(22, "the pair", m.faultsOf(0), 1);
        due(22, "the pair from the other side", m.faultsOf(1), 1);
        due(22, "one that has no CORNER", m.faultsOf(2), 0);
        m.put(2, 1);
        m.allow(2, 1, false);
        due(22, "two pairs", m.faultsOf(0), 2);
        due(22, "two pairs and itself", m.faultsOf(2), 3);
        m.put(2, 0);
        due(22, "elsewhere", m.faultsOf(2), 0);
        for (int no : new int[] {-1, 3, Integer.MIN_VALUE, Integer.MAX_VALUE}) {
            due(22, "SITE " + no, m.faultsOf(no), UNKNOWN);
        }
        due(22, "8 apart", apart(8).faultsOf(0), 2);
        due(22, "20 apart", apart(20).faultsOf(0), 0);
    }

    private static void stir() {
        MapNames m = three();
        due(23, "no CORNERS", m.stir(), NONE);
        m.put(0, 1);
        m.put(1, 1);
        m.put(2, 1);
        due(23, "the least SITE, the least CORNER", m.stir(), 0);
        due(23, "it is done", m.hand(0), 0);
        due(23, "others stay", m.hand(1), 1);
        due(23, "SITE 1 to the first that mends", m.stir(), 12);
        due(23, "no FAULTS", m.stir(), NONE);
        due(23, "as it was", m.hand(1), 2);
        m = three();
        m.put(1, 0);
        m.put(2, 0);
        m.allow(2, 0, false);
        due(23, "what mends most, not the first that mends", m.stir(), 21);
        m = rivals(5, 5);
        m.put(0, 0);
        m.put(1, 2);
        due(23, "nothing is better: 1 as before", m.stir(), NONE);
        due(23, "nothing is changed", m.hand(0), 0);
        due(23, "SITE 0 out of the way", apart(10).stir(), 1);
        due(23, "nothing in the way", apart(20).stir(), NONE);
        m = new MapNames();
        m.site(0, 0, 10, 10, 1);
        m.put(0, 2);
        m.allow(0, 0, false);
        due(23, "never to NONE", m.stir(), NONE);
        due(23, "it stays", m.hand(0), 2);
    }

    private static void settle() {
        MapNames m = three();
        due(24, "no CORNERS", m.settle(), 0);
        m.put(0, 1);
        m.put(1, 1);
        m.put(2, 1);
        due(24, "two STIRS", m.settle(), 2);
        due(24, "SITE 0", m.hand(0), 0);
        due(24, "SITE 1", m.hand(1), 2);
        due(24, "SITE 2", m.hand(2), 1);
        due(24, "none then", m.settle(), 0);
        due(24, "one out of the way", apart(10).settle(), 1);
        due(24, "none in the way", apart(20).settle(), 0);
        m = new MapNames();
        for (int site = 0; site < 8; site++) {
            m.site(50, 50, 10, 10, 1);
            m.put(site, 0);
        }
        due(24, "28 pairs at first", m.faults(), 28);
        due(24, "six of eight go", m.settle(), 6);
        due(24, "two by two", m.faults(), 4);
    }

    private static void stands() {
        MapNames m = three();
        due(25, "no CORNERS", m.stands(), 1);
        m.put(0, 1);
        due(25, "one", m.stands(), 1);
        m.put(2, 1);
        due(25, "a pair that CLASHES", m.stands(), 0);
        m.put(2, 3);
        due(25, "a pair", m.stands(), 1);
        m.allow(2, 3, false);
        due(25, "not FREE", m.stands(), 0);
        due(25, "in the way", apart(19).stands(), 0);
        due(25, "not in the way", apart(20).stands(), 1);
    }

    /** At LEVEL 0 SITE 2, that fills THE MAP, at 1 SITE 0, at 5 SITE 1, and SITE 3 never. */
    private static MapNames growing() {
        MapNames m = new MapNames();
        m.map(10, 10);
        m.site(10, 0, 10, 6, 3);
        m.site(10, 5, 60, 20, 9);
        m.site(0, 0, 10, 10, 4);
        m.site(10, 10, 5, 5, 1);
        for (int corner = 0; corner < 4; corner++) {
            m.allow(3, corner, false);
        }
        return m;
    }

    private static void shown() {
        MapNames m = growing();
        due(26, "LEVEL 0", m.shown(0), 1);
        due(26, "LEVEL 1", m.shown(1), 2);
        due(26, "LEVEL 4", m.shown(4), 2);
        due(26, "LEVEL 5", m.shown(5), 3);
        for (int bad : new int[] {-1, 6, Integer.MIN_VALUE, Integer.MAX_VALUE}) {
            due(26, "LEVEL " + bad, m.shown(bad), OUTSIDE);
        }
        due(26, "two far from each other", two().shown(0), 2);
    }

    private static void comes() {
        MapNames m = growing();
        due(27, "at LEVEL 1, when the other fills the half", m.comes(0), 1);
        due(27, "at LEVEL 5, when there is room for 60", m.comes(1), 5);
        due(27, "at LEVEL 0", m.comes(2), 0);
        due(27, "never", m.comes(3), NONE);
        for (int no : new int[] {-1, 4, 8, Integer.MIN_VALUE, Integer.MAX_VALUE}) {
            due(27, "SITE " + no, m.comes(no), UNKNOWN);
        }
        m.rule(0, 11);
        due(27, "66 wide: there is no LEVEL 6", m.comes(1), NONE);
        due(27, "11 by 11 is too much for LEVEL 0", m.comes(2), 1);
        m = rivals(5, 5);
        due(27, "of like ones the least SITE", m.comes(0), 0);
        due(27, "the other when there is room", m.comes(1), 1);
        m = rivals(5, 6);
        due(27, "by WORTH", m.comes(1), 0);
        due(27, "by WORTH", m.comes(0), 1);
        m.rule(1, 10);
        due(27, "GAP does not grow: 10 apart at LEVEL 2", m.comes(0), 2);
        m.rule(1, 11);
        due(27, "20 apart at LEVEL 3", m.comes(0), 3);
        m.rule(1, 0);
        m.rule(0, 20);
        due(27, "20 by 20 at LEVEL 1", m.comes(1), 1);
        due(27, "twice 20 by 20 at LEVEL 3", m.comes(0), 3);
    }

    private static void shownAt() {
        MapNames m = growing();
        due(28, "its only CORNER", m.shownAt(0), 1);
        due(28, "its first", m.shownAt(1), 1);
        due(28, "its only CORNER", m.shownAt(2), 0);
        due(28, "never", m.shownAt(3), NONE);
        for (int no : new int[] {-1, 4, 8, Integer.MIN_VALUE, Integer.MAX_VALUE}) {
            due(28, "SITE " + no, m.shownAt(no), UNKNOWN);
        }
        m = three();
        due(28, "round one place", m.shownAt(0), 0);
        due(28, "round one place", m.shownAt(1), 1);
        due(28, "round one place", m.shownAt(2), 2);
        // At LEVEL 0 CORNER 0 of SITE 0 is beyond THE MAP, later it is not: but SITE 0 stays.
        m = new MapNames();
        m.site(95, 50, 10, 10, 1);
        due(28, "it stays at its CORNER", m.shownAt(0), 1);
        // SITE 1, that is never SHOWN itself, lies in the box till LEVEL 1 moves it to the rim.
        m = new MapNames();
        m.map(20, 20);
        m.site(0, 0, 10, 10, 1);
        m.site(5, 5, 1, 1, 1);
        for (int corner = 0; corner < 4; corner++) {
            m.allow(1, corner, false);
        }
        due(28, "covered at LEVEL 0", m.comes(0), 1);
        due(28, "and then at its CORNER", m.shownAt(0), 0);
    }

    /** Four SITES at x 20, 40, 60, 80 on a MAP of 100 by 100. */
    private static MapNames steps(int y0, int y1, int y2, int y3) {
        MapNames m = new MapNames();
        m.site(20, y0, 5, 5, 1);
        m.site(40, y1, 5, 5, 1);
        m.site(60, y2, 5, 5, 1);
        m.site(80, y3, 5, 5, 1);
        return m;
    }

    private static void crosses() {
        MapNames m = steps(0, 25, 50, 75);
        due(29, "straight ones", m.crosses(15), 0);
        due(29, "the empty set", m.crosses(0), 0);
        due(29, "one", m.crosses(4), 0);
        for (int bad : new int[] {16, 31, 1 << 30, -1, Integer.MIN_VALUE, Integer.MAX_VALUE, 1 << 8}) {
            due(29, "set " + bad, m.crosses(bad), OUTSIDE);
        }
        // All at x WIDTH: of two at one place both LINES begin with the same point.
        m = new MapNames();
        m.site(100, 0, 5, 5, 1);
        m.site(100, 50, 5, 5, 1);
        m.site(100, 50, 5, 5, 1);
        due(29, "two at one place CROSS", m.crosses(6), 1);
        due(30, "to 0 and 50 from 50", m.length(6), 50);
        due(31, "no two have one place", m.place(6, 1), 0);
        due(31, "no two have one place", m.place(6, 2), 1);
        due(29, "not these", m.crosses(3), 0);
        due(29, "one pair of three at least", m.crosses(7), 1);
        for (int site = 3; site < 8; site++) {
            m.site(10 * site, 10 * site, 5, 5, 1);
        }
        due(29, "six", m.crosses(0xF3) >= 0 ? 1 : 0, 1);
        due(29, "seven", m.crosses(0x7F), OUTSIDE);
        due(29, "eight", m.crosses(0xFF), OUTSIDE);
        due(29, "nine bits", m.crosses(0x101), OUTSIDE);
    }

    private static void length() {
        MapNames m = steps(0, 25, 50, 75);
        due(30, "straight ones", m.length(15), 80 + 60 + 40 + 20);
        due(30, "the empty set", m.length(0), 0);
        due(30, "one goes to height 0", m.length(8), 20 + 75);
        due(30, "two go to 0 and 50", m.length(3), 80 + 60 + 25);
        due(30, "three go to 0, 33, 66", m.length(7), 80 + 60 + 8 + 40 + 16);
        for (int bad : new int[] {16, 31, -1, Integer.MIN_VALUE, Integer.MAX_VALUE}) {
            due(30, "set " + bad, m.length(bad), OUTSIDE);
        }
        for (int site = 4; site < 8; site++) {
            m.site(1, 1, 1, 1, 1);
        }
        due(30, "seven", m.length(0xFE), OUTSIDE);
        // SITE 0 straight to 0 meets the first point of SITE 1: so it goes to 50, and SITE 1 to 0.
        m = new MapNames();
        m.site(20, 0, 5, 5, 1);
        m.site(60, 0, 5, 5, 1);
        due(30, "one of two goes round", m.length(3), 80 + 40 + 50);
        due(29, "so nothing CROSSES", m.crosses(3), 0);
        due(31, "by this DEAL", m.place(3, 0), 1);
        // In order of height they would be 16 LONG, but SITES 1 and 2 would meet at 8, 4.
        m = new MapNames();
        m.map(10, 12);
        m.site(6, 10, 1, 1, 1);
        m.site(8, 6, 1, 1, 1);
        m.site(8, 4, 1, 1, 1);
        due(29, "few CROSSINGS come before short LINES", m.crosses(7), 0);
        due(30, "so they are longer", m.length(7), 4 + 10 + 2 + 2 + 2);
        due(31, "SITE 0 goes farthest", m.place(7, 0), 0);
        due(31, "SITE 1 goes round", m.place(7, 1), 2);
        due(31, "SITE 2 goes straight", m.place(7, 2), 1);
    }

    private static void place() {
        MapNames m = steps(75, 50, 25, 0);
        due(31, "SITE 0", m.place(15, 0), 3);
        due(31, "SITE 1", m.place(15, 1), 2);
        due(31, "SITE 2", m.place(15, 2), 1);
        due(31, "SITE 3", m.place(15, 3), 0);
        due(31, "of two", m.place(9, 0), 1);
        due(31, "alone", m.place(8, 3), 0);
        for (int no : new int[] {1, 2, 4, 8, 32, 35, -1, -9, -32, Integer.MIN_VALUE, Integer.MAX_VALUE}) {
            due(31, "not of the set: " + no, m.place(9, no), UNKNOWN);
        }
        due(31, "of the empty set", m.place(0, 0), UNKNOWN);
        due(31, "OUTSIDE comes first", m.place(16, 9), OUTSIDE);
        due(31, "OUTSIDE", m.place(31, 0), OUTSIDE);
        due(31, "OUTSIDE", m.place(-1, 0), OUTSIDE);
        // At height 25, as far from 0 as from 50: both DEALS are as LONG, and nothing CROSSES.
        m = new MapNames();
        m.site(20, 25, 5, 5, 1);
        m.site(60, 25, 5, 5, 1);
        due(31, "like ones: SITE by SITE the least place", m.place(3, 0), 0);
        due(31, "like ones", m.place(3, 1), 1);
        due(31, "no CROSSINGS", m.crosses(3), 0);
        for (int site = 2; site < 8; site++) {
            m.site(1, 1, 1, 1, 1);
        }
        due(31, "seven", m.place(0xFE, 7), OUTSIDE);
        // Neither DEAL CROSSES: 20 down and 40 up, or 30 up and 10 down.
        m = new MapNames();
        m.site(60, 20, 5, 5, 1);
        m.site(20, 10, 5, 5, 1);
        due(31, "the shorter LINES", m.place(3, 0), 1);
        due(30, "the shorter LINES", m.length(3), 40 + 30 + 80 + 10);
    }

    /** Whether the LINE from x, y to height and that of a SITE at 40, 50 to height other CROSS. */
    private static int crossAt(int x, int y, int height, int other) {
        MapNames m = new MapNames();
        m.site(x, y, 1, 1, 1);
        m.site(40, 50, 1, 1, 1);
        int one = m.cross(0, height, 1, other);
        due(32, "the other way round from " + x + ", " + y, m.cross(1, other, 0, height), one);
        return one;
    }

    private static void cross() {
        due(32, "to one height", crossAt(90, 10, 20, 20), 1);
        due(32, "to one height, at WIDTH", crossAt(100, 20, 20, 20), 1);
        due(32, "apart", crossAt(60, 10, 20, 50), 0);
        due(32, "along y through the other", crossAt(60, 10, 90, 50), 1);
        due(32, "along y from above through the other", crossAt(60, 90, 10, 50), 1);
        due(32, "along y begins on the other", crossAt(60, 50, 90, 50), 1);
        due(32, "along y begins on the other and goes down", crossAt(60, 50, 10, 50), 1);
        due(32, "along y begins behind the other", crossAt(60, 51, 90, 50), 0);
        due(32, "along y ends before the other", crossAt(60, 10, 49, 50), 0);
        due(32, "left of the other", crossAt(20, 10, 49, 60), 0);
        due(32, "left of the other, along x through its first part", crossAt(20, 10, 55, 60), 1);
        due(32, "along x through its end", crossAt(20, 10, 50, 60), 1);
        due(32, "along x beyond its end", crossAt(20, 10, 61, 60), 0);
        due(32, "along x through, from above", crossAt(20, 10, 30, 20), 1);
        due(32, "along y far left of the other", crossAt(20, 10, 90, 50), 0);
        due(32, "at one x, apart", crossAt(40, 10, 30, 60), 0);
        due(32, "at one x, touching", crossAt(40, 10, 30, 30), 1);
        due(32, "at one x, over each other", crossAt(40, 70, 80, 75), 1);
        due(32, "at one x, one in the other", crossAt(40, 60, 70, 90), 1);
        due(32, "at one x, apart the other way", crossAt(40, 90, 80, 60), 0);
        due(32, "at one place", crossAt(40, 50, 0, 100), 1);
        due(32, "both straight", crossAt(70, 51, 51, 50), 0);
        due(32, "at WIDTH along y through the end", crossAt(100, 10, 90, 50), 1);
        MapNames m = two();
        for (int no : NO_SITE) {
            due(32, "a " + no, m.cross(no, 0, 1, 0), UNKNOWN);
            due(32, "b " + no, m.cross(0, 0, no, 0), UNKNOWN);
            due(32, "b " + no + ", OUTSIDE too", m.cross(0, -1, no, 101), UNKNOWN);
        }
        for (int bad : new int[] {-1, 101, Integer.MIN_VALUE, Integer.MAX_VALUE}) {
            due(32, "height " + bad, m.cross(0, bad, 1, 0), OUTSIDE);
            due(32, "other " + bad, m.cross(0, 0, 1, bad), OUTSIDE);
            due(32, "other " + bad + ", STATE too", m.cross(0, 0, 0, bad), OUTSIDE);
        }
        due(32, "both are one", m.cross(1, 0, 1, 50), STATE);
        due(32, "heights 0 and HEIGHT", m.cross(0, 0, 1, 100), 0);
        m.map(100, 40);
        m.site(50, 20, 1, 1, 1);
        m.site(10, 20, 1, 1, 1);
        due(32, "HEIGHT 40", m.cross(0, 40, 1, 0), 0);
        due(32, "beyond HEIGHT 40", m.cross(0, 41, 1, 0), OUTSIDE);
    }

    private static void count() {
        MapNames m = new MapNames();
        m.map(90, 80);
        m.site(50, 40, 10, 10, 1);
        m.site(50, 40, 10, 10, 1);
        due(33, "SITES", m.count(0), 2);
        due(33, "WIDTH", m.count(1), 90);
        due(33, "HEIGHT", m.count(2), 80);
        due(33, "FREE CORNERS", m.count(3), 8);
        due(33, "CLASHES", m.count(4), 4);
        m.rule(1, 1);
        due(33, "CLASHES with a GAP", m.count(4), 16);
        m.rule(1, 0);
        m.allow(1, 2, false);
        due(33, "FREE CORNERS, one not ALLOWED", m.count(3), 7);
        due(33, "CLASHES of FREE ones", m.count(4), 3);
        m.site(55, 45, 1, 1, 1);
        // SITE 2 covers CORNER 0 of both; its boxes lie in those that are not FREE.
        due(33, "FREE CORNERS, two covered", m.count(3), 9);
        due(33, "CLASHES of FREE ones", m.count(4), 2);
        m.move(2, 60, 50);
        // It lies on the rim now, and its CORNER 2 in CORNER 0 of both.
        due(33, "FREE CORNERS, none covered", m.count(3), 11);
        due(33, "CLASHES of FREE ones", m.count(4), 5);
        for (int bad : new int[] {-1, 5, Integer.MIN_VALUE, Integer.MAX_VALUE}) {
            due(33, "what " + bad, m.count(bad), OUTSIDE);
        }
    }

    /** Eight SITES from one end of THE MAP to the other, the last worth most, as many as there can be. */
    private static void eightSites() {
        MapNames m = new MapNames();
        for (int site = 0; site < 8; site++) {
            m.site(10 + 10 * site, 10 + 10 * site, 12, 6, 10 + site % 4 * 2 + site / 4);
        }
        due(10, "all of eight", m.best(), 10 * 8 + 2 * 12 + 4);
        due(11, "the last of eight", m.at(7), 0);
        due(12, "eight", m.named(), 8);
        due(15, "the last of eight", m.sure(7), NONE);
        due(16, "of eight", m.greatest() >= 10 ? 1 : 0, 1);
        due(17, "of eight", m.least(), 0);
        due(20, "eight otherwise", m.take(), 8);
        due(21, "of eight", m.faults(), 0);
        due(22, "the last of eight", m.faultsOf(7), 0);
        due(23, "of eight", m.stir(), NONE);
        due(24, "of eight", m.settle(), 0);
        due(25, "of eight", m.stands(), 1);
        due(26, "of eight", m.shown(0), 8);
        due(27, "the last of eight", m.comes(7), 0);
        due(28, "the last of eight", m.shownAt(7), 0);
        due(33, "but for CORNERS 1 and 2 of the first", m.count(3), 8 * 4 - 2);
        // Of neighbours CORNER 0 with 2 and 3, and 1 with 2, but CORNER 1 of the first is not FREE.
        due(33, "CLASHES of eight", m.count(4), 7 * 3 - 1);
        m.allow(7, 3, false);
        due(33, "and CORNER 3 of the last", m.count(3), 8 * 4 - 3);
        m.rule(1, 20);
        due(25, "with a GAP", m.stands(), 0);
        due(21, "each with one or two beside it", m.faults(), 7 + 6);
        due(22, "the last with two", m.faultsOf(7), 2);
    }

    /** The dearest calls, 512 of them on one object, and many objects: they end, and soon. */
    private static void manyCalls() {
        MapNames m = new MapNames();
        m.map(400, 400);
        for (int site = 0; site < 8; site++) {
            m.site(100 + 30 * (site % 4), 100 + 30 * (site / 4), 5, 5, 1);
        }
        for (int call = 0; call < 100; call++) {
            due(13, "once more", m.full(), 65536);
            due(14, "once more", m.with(3, 1), 16384);
            due(10, "once more", m.best(), 8);
            due(17, "once more", m.least(), 0);
            due(24, "once more", m.settle(), 0);
        }
    }
}
