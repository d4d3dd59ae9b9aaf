/**
 * Names on a map: each is a box at one of the four corners of its site.
 *
 * The document is ../shared/DOC.md; its words in capitals are the words of the comments here.
 * A box has the number 4 * SITE + CORNER, so that a set of boxes is the 32 bits of one int.
 */
public final class MapNames {
    public static final int UNKNOWN = -1, OUTSIDE = -2, STATE = -3, FULL = -4, NONE = -9;

    private static final int MOST_SITES = 8;
    private static final int CORNERS = 4;
    private static final int MOST_BOXES = 32;
    private static final int GREATEST_SIZE = 40;
    private static final int LEVELS = 6;
    private static final int MOST_LINES = 6;
    private static final int MOST_FAULTS = 36;
    private static final int MORE_THAN_ANY = 1000000;

    private final Chart chart;
    private final Boxes boxes;
    private final Search search;
    private final Hand byHand;
    private final Levels levels;
    private final Edge edge;

    public MapNames() {
        chart = new Chart();
        boxes = new Boxes(chart);
        search = new Search(chart, boxes);
        byHand = new Hand(chart, boxes);
        levels = new Levels(chart, boxes);
        edge = new Edge(chart);
    }

    // ---- the map

    public int map(int width, int height) {
        if (!isIn(width, 10, 400) || !isIn(height, 10, 400)) {
            return OUTSIDE;
        }
        chart.width = width;
        chart.height = height;
        chart.sites = 0;
        return 1;
    }

    public int site(int x, int y, int wide, int high, int worth) {
        if (!chart.holds(x, y) || !isIn(wide, 1, 60) || !isIn(high, 1, 20) || !isIn(worth, 1, 99)) {
            return OUTSIDE;
        }
        if (chart.sites >= MOST_SITES) {
            return FULL;
        }
        int site = chart.add(x, y, wide, high, worth);
        byHand.corner[site] = NONE;
        return site;
    }

    public int move(int site, int x, int y) {
        if (!chart.has(site)) {
            return UNKNOWN;
        }
        if (!chart.holds(x, y)) {
            return OUTSIDE;
        }
        int before = chart.x[site] * 1000 + chart.y[site];
        chart.x[site] = x;
        chart.y[site] = y;
        return before;
    }

    public int allow(int site, int corner, boolean is) {
        if (!chart.has(site)) {
            return UNKNOWN;
        }
        if (!isCorner(corner)) {
            return OUTSIDE;
        }
        int box = boxOf(site, corner);
        int before = toInt(chart.allowed[box]);
        chart.allowed[box] = is;
        return before;
    }

    public int rule(int what, int v) {
        if (what == 0 && isIn(v, 1, GREATEST_SIZE)) {
            int before = chart.size;
            chart.size = v;
            return before;
        }
        if (what == 1 && isIn(v, 0, 20)) {
            int before = chart.gap;
            chart.gap = v;
            return before;
        }
        return OUTSIDE;
    }

    public int about(int site, int what) {
        if (!chart.has(site)) {
            return UNKNOWN;
        }
        switch (what) {
            case 0: return chart.x[site];
            case 1: return chart.y[site];
            case 2: return chart.wide[site];
            case 3: return chart.high[site];
            case 4: return chart.worth[site];
            case 5: return sized(chart.wide[site], chart.size);
            case 6: return sized(chart.high[site], chart.size);
            default: return OUTSIDE;
        }
    }

    public int free(int site, int corner) {
        if (!chart.has(site)) {
            return UNKNOWN;
        }
        if (!isCorner(corner)) {
            return OUTSIDE;
        }
        boxes.measure(chart.size, 1);
        return toInt(boxes.isFree(boxOf(site, corner)));
    }

    public int clash(int a, int corner, int b, int other) {
        if (!chart.has(a) || !chart.has(b)) {
            return UNKNOWN;
        }
        if (!isCorner(corner) || !isCorner(other)) {
            return OUTSIDE;
        }
        if (a == b) {
            return STATE;
        }
        boxes.measure(chart.size, 1);
        return toInt(boxes.doClash(boxOf(a, corner), boxOf(b, other)));
    }

    // ---- best layouts

    public int best() {
        search.findBest();
        return search.bestWorth;
    }

    public int at(int site) {
        if (!chart.has(site)) {
            return UNKNOWN;
        }
        search.findBest();
        return search.bestCorner[site];
    }

    public int named() {
        search.findBest();
        int sum = 0;
        for (int site = 0; site < chart.sites; site++) {
            if (search.bestCorner[site] != NONE) {
                sum++;
            }
        }
        return sum;
    }

    public int full() {
        search.study(chart.size);
        return search.countFull();
    }

    public int with(int site, int corner) {
        if (!chart.has(site)) {
            return UNKNOWN;
        }
        if (!isCorner(corner)) {
            return OUTSIDE;
        }
        search.study(chart.size);
        return search.countFullWith(site, corner);
    }

    public int sure(int site) {
        if (!chart.has(site)) {
            return UNKNOWN;
        }
        search.study(chart.size);
        int only = NONE;
        for (int corner = 0; corner < CORNERS; corner++) {
            if (search.isThereFullWith(site, corner)) {
                if (only != NONE) {
                    return NONE;
                }
                only = corner;
            }
        }
        return only;
    }

    public int greatest() {
        for (int size = GREATEST_SIZE; size >= 1; size--) {
            search.study(size);
            if (search.isThereFull(chart.everySite())) {
                return size;
            }
        }
        return NONE;
    }

    public int least() {
        search.study(chart.size);
        int every = chart.everySite();
        int least = chart.worthOf(every);
        for (int away = 0; away <= every; away++) {
            int worth = chart.worthOf(away);
            if (worth < least && search.isThereFull(every & ~away)) {
                least = worth;
            }
        }
        return least;
    }

    // ---- by hand

    public int put(int site, int corner) {
        if (!chart.has(site)) {
            return UNKNOWN;
        }
        if (!isCorner(corner) && corner != NONE) {
            return OUTSIDE;
        }
        int before = byHand.corner[site];
        byHand.corner[site] = corner;
        return before;
    }

    public int hand(int site) {
        return chart.has(site) ? byHand.corner[site] : UNKNOWN;
    }

    public int take() {
        search.findBest();
        int otherwise = 0;
        for (int site = 0; site < chart.sites; site++) {
            if (byHand.corner[site] != search.bestCorner[site]) {
                byHand.corner[site] = search.bestCorner[site];
                otherwise++;
            }
        }
        return otherwise;
    }

    public int faults() {
        boxes.measure(chart.size, 1);
        return byHand.countFaults();
    }

    public int faultsOf(int site) {
        if (!chart.has(site)) {
            return UNKNOWN;
        }
        boxes.measure(chart.size, 1);
        int sum = byHand.ownFault(site);
        for (int other = 0; other < chart.sites; other++) {
            if (other != site) {
                sum += byHand.sharedFault(site, other);
            }
        }
        return sum;
    }

    public int stir() {
        boxes.measure(chart.size, 1);
        return byHand.mendMost();
    }

    public int settle() {
        boxes.measure(chart.size, 1);
        // Each STIR leaves fewer FAULTS, so there are no more STIRS than FAULTS.
        for (int stirs = 0; stirs < MOST_FAULTS; stirs++) {
            if (byHand.mendMost() == NONE) {
                return stirs;
            }
        }
        return MOST_FAULTS;
    }

    public int stands() {
        boxes.measure(chart.size, 1);
        return toInt(byHand.countFaults() == 0);
    }

    // ---- levels

    public int shown(int level) {
        if (!isIn(level, 0, LEVELS - 1)) {
            return OUTSIDE;
        }
        levels.grow();
        int sum = 0;
        for (int site = 0; site < chart.sites; site++) {
            if (levels.since[site] != NONE && levels.since[site] <= level) {
                sum++;
            }
        }
        return sum;
    }

    public int comes(int site) {
        if (!chart.has(site)) {
            return UNKNOWN;
        }
        levels.grow();
        return levels.since[site];
    }

    public int shownAt(int site) {
        if (!chart.has(site)) {
            return UNKNOWN;
        }
        levels.grow();
        return levels.corner[site];
    }

    // ---- at the edge

    public int crosses(int set) {
        if (!chart.isSetForLines(set)) {
            return OUTSIDE;
        }
        edge.deal(set);
        return edge.fewest;
    }

    public int length(int set) {
        if (!chart.isSetForLines(set)) {
            return OUTSIDE;
        }
        edge.deal(set);
        return edge.shortest;
    }

    public int place(int set, int site) {
        if (!chart.isSetForLines(set)) {
            return OUTSIDE;
        }
        if (!chart.has(site) || !hasBit(set, site)) {
            return UNKNOWN;
        }
        edge.deal(set);
        return edge.placeOf(site);
    }

    public int cross(int a, int height, int b, int other) {
        if (!chart.has(a) || !chart.has(b)) {
            return UNKNOWN;
        }
        if (!isIn(height, 0, chart.height) || !isIn(other, 0, chart.height)) {
            return OUTSIDE;
        }
        if (a == b) {
            return STATE;
        }
        return toInt(edge.doCross(a, height, b, other));
    }

    public int count(int what) {
        switch (what) {
            case 0: return chart.sites;
            case 1: return chart.width;
            case 2: return chart.height;
            case 3:
                search.study(chart.size);
                return Integer.bitCount(search.freeBoxes(chart.everySite()));
            case 4:
                search.study(chart.size);
                return search.countClashes(search.freeBoxes(chart.everySite()));
            default: return OUTSIDE;
        }
    }

    // ---- small helpers of all classes

    private static boolean isIn(int v, int from, int to) {
        return from <= v && v <= to;
    }

    private static boolean isCorner(int corner) {
        return isIn(corner, 0, CORNERS - 1);
    }

    private static int boxOf(int site, int corner) {
        return CORNERS * site + corner;
    }

    private static int boxesOf(int site) {
        return 15 << boxOf(site, 0);
    }

    private static boolean hasBit(int set, int bit) {
        return (set >>> bit & 1) == 1;
    }

    private static int toInt(boolean is) {
        return is ? 1 : 0;
    }

    private static int sized(int length, int size) {
        return Math.max(1, length * size / 10);
    }

    /** What is told of THE MAP, its SITES and its rules. */
    private static final class Chart {
        int width = 100;
        int height = 100;
        int size = 10;
        int gap = 0;
        int sites = 0;
        final int[] x = new int[MOST_SITES];
        final int[] y = new int[MOST_SITES];
        final int[] wide = new int[MOST_SITES];
        final int[] high = new int[MOST_SITES];
        final int[] worth = new int[MOST_SITES];
        final boolean[] allowed = new boolean[MOST_BOXES];

        boolean has(int site) {
            return isIn(site, 0, sites - 1);
        }

        boolean holds(int px, int py) {
            return isIn(px, 0, width) && isIn(py, 0, height);
        }

        /** Only behind the test that there is room. */
        int add(int px, int py, int nameWide, int nameHigh, int nameWorth) {
            int site = sites;
            x[site] = px;
            y[site] = py;
            wide[site] = nameWide;
            high[site] = nameHigh;
            worth[site] = nameWorth;
            for (int corner = 0; corner < CORNERS; corner++) {
                allowed[boxOf(site, corner)] = true;
            }
            sites++;
            return site;
        }

        int everySite() {
            return (1 << sites) - 1;
        }

        int worthOf(int set) {
            int sum = 0;
            for (int site = 0; site < sites; site++) {
                if (hasBit(set, site)) {
                    sum += worth[site];
                }
            }
            return sum;
        }

        boolean isSetForLines(int set) {
            return (set & ~everySite()) == 0 && Integer.bitCount(set) <= MOST_LINES;
        }
    }

    /** The boxes of all SITES at all CORNERS, measured for one SIZE and one LEVEL at a time. */
    private static final class Boxes {
        final Chart chart;
        int width;
        int height;
        final int[] siteX = new int[MOST_SITES];
        final int[] siteY = new int[MOST_SITES];
        final int[] left = new int[MOST_BOXES];
        final int[] right = new int[MOST_BOXES];
        final int[] low = new int[MOST_BOXES];
        final int[] high = new int[MOST_BOXES];

        Boxes(Chart chart) {
            this.chart = chart;
        }

        void measure(int size, int times) {
            width = chart.width * times;
            height = chart.height * times;
            for (int site = 0; site < chart.sites; site++) {
                siteX[site] = chart.x[site] * times;
                siteY[site] = chart.y[site] * times;
                int boxWide = sized(chart.wide[site], size);
                int boxHigh = sized(chart.high[site], size);
                for (int corner = 0; corner < CORNERS; corner++) {
                    int box = boxOf(site, corner);
                    left[box] = corner == 0 || corner == 3 ? siteX[site] : siteX[site] - boxWide;
                    low[box] = corner == 0 || corner == 1 ? siteY[site] : siteY[site] - boxHigh;
                    right[box] = left[box] + boxWide;
                    high[box] = low[box] + boxHigh;
                }
            }
        }

        boolean isFree(int box) {
            return mayStand(box) && sitesWithin(box) == 0;
        }

        /** Whether it is FREE but for SITES that it may cover. */
        boolean mayStand(int box) {
            return chart.allowed[box]
                    && left[box] >= 0 && right[box] <= width
                    && low[box] >= 0 && high[box] <= height;
        }

        /** The set of SITES within a box. Its own lies on its rim, so it is never among them. */
        int sitesWithin(int box) {
            int covered = 0;
            for (int site = 0; site < chart.sites; site++) {
                if (left[box] < siteX[site] && siteX[site] < right[box]
                        && low[box] < siteY[site] && siteY[site] < high[box]) {
                    covered |= 1 << site;
                }
            }
            return covered;
        }

        boolean doClash(int one, int two) {
            return left[one] < right[two] + chart.gap && left[two] < right[one] + chart.gap
                    && low[one] < high[two] + chart.gap && low[two] < high[one] + chart.gap;
        }
    }

    /** Seeks through LAYOUTS, SITE by SITE, with the boxes that this and later SITES may still have as a set. */
    private static final class Search {
        final Chart chart;
        final Boxes boxes;
        final int[] covered = new int[MOST_BOXES];
        final int[] clashing = new int[MOST_BOXES];
        int standing;
        final int[] corner = new int[MOST_SITES];
        final int[] bestCorner = new int[MOST_SITES];
        int bestWorth;

        Search(Chart chart, Boxes boxes) {
            this.chart = chart;
            this.boxes = boxes;
        }

        void study(int size) {
            boxes.measure(size, 1);
            int all = CORNERS * chart.sites;
            standing = 0;
            for (int box = 0; box < all; box++) {
                covered[box] = boxes.sitesWithin(box);
                clashing[box] = clashingWith(box, all);
                if (boxes.mayStand(box)) {
                    standing |= 1 << box;
                }
            }
        }

        private int clashingWith(int box, int all) {
            int set = 0;
            for (int other = 0; other < all; other++) {
                if (other / CORNERS != box / CORNERS && boxes.doClash(box, other)) {
                    set |= 1 << other;
                }
            }
            return set;
        }

        /** The FREE boxes of the SITES of a set, if these are all SITES there are. */
        int freeBoxes(int set) {
            int free = 0;
            for (int site = 0; site < chart.sites; site++) {
                for (int c = 0; c < CORNERS; c++) {
                    int box = boxOf(site, c);
                    if (hasBit(set, site) && hasBit(standing, box) && (covered[box] & set) == 0) {
                        free |= 1 << box;
                    }
                }
            }
            return free;
        }

        /** The FREE boxes of all SITES but for those of one SITE at other CORNERS than this. */
        private int freeBoxesWith(int site, int c) {
            return freeBoxes(chart.everySite()) & (~boxesOf(site) | 1 << boxOf(site, c));
        }

        void findBest() {
            study(chart.size);
            bestWorth = -1;
            seekBest(this, 0, freeBoxes(chart.everySite()), 0, chart.worthOf(chart.everySite()));
        }

        /** In the order of LAYOUTS: so of those of like WORTH the first is kept. */
        private static void seekBest(Search s, int site, int open, int worth, int atMost) {
            if (atMost <= s.bestWorth) {
                return;
            }
            if (site >= s.chart.sites) {
                s.bestWorth = worth;
                System.arraycopy(s.corner, 0, s.bestCorner, 0, MOST_SITES);
                return;
            }
            int own = s.chart.worth[site];
            int rest = open & ~boxesOf(site);
            for (int c = 0; c < CORNERS; c++) {
                int box = boxOf(site, c);
                if (hasBit(open, box)) {
                    int left = rest & ~s.clashing[box];
                    s.corner[site] = c;
                    seekBest(s, site + 1, left, worth + own, atMost);
                    if (left == rest) {
                        // It takes nothing from the others: so no CORNER behind it can be worth more.
                        return;
                    }
                }
            }
            s.corner[site] = NONE;
            seekBest(s, site + 1, rest, worth, atMost - own);
        }

        int countFull() {
            return countFrom(this, 0, freeBoxes(chart.everySite()));
        }

        int countFullWith(int site, int c) {
            return countFrom(this, 0, freeBoxesWith(site, c));
        }

        private static int countFrom(Search s, int site, int open) {
            if (site >= s.chart.sites) {
                return 1;
            }
            int sum = 0;
            int harmless = 0;
            int rest = open & ~boxesOf(site);
            for (int c = 0; c < CORNERS; c++) {
                int box = boxOf(site, c);
                if (hasBit(open, box)) {
                    int left = rest & ~s.clashing[box];
                    if (left == rest) {
                        harmless++;
                    } else {
                        sum += countFrom(s, site + 1, left);
                    }
                }
            }
            // Those that take nothing from the others all leave as many ways: counted once.
            return harmless > 0 ? sum + harmless * countFrom(s, site + 1, rest) : sum;
        }

        /** Whether there is a FULL LAYOUT of the SITES of a set, if these are all SITES there are. */
        boolean isThereFull(int set) {
            return isFullFrom(this, 0, set, freeBoxes(set));
        }

        boolean isThereFullWith(int site, int c) {
            return isFullFrom(this, 0, chart.everySite(), freeBoxesWith(site, c));
        }

        private static boolean isFullFrom(Search s, int site, int set, int open) {
            if (site >= s.chart.sites) {
                return true;
            }
            if (!hasBit(set, site)) {
                return isFullFrom(s, site + 1, set, open);
            }
            int rest = open & ~boxesOf(site);
            for (int c = 0; c < CORNERS; c++) {
                int box = boxOf(site, c);
                if (hasBit(open, box)) {
                    int left = rest & ~s.clashing[box];
                    boolean is = isFullFrom(s, site + 1, set, left);
                    if (is || left == rest) {
                        // What takes nothing from the others fails only if every CORNER does.
                        return is;
                    }
                }
            }
            return false;
        }

        /** Each pair is seen from both its boxes. */
        int countClashes(int set) {
            int seen = 0;
            for (int box = 0; box < CORNERS * chart.sites; box++) {
                if (hasBit(set, box)) {
                    seen += Integer.bitCount(clashing[box] & set);
                }
            }
            return seen / 2;
        }
    }

    /** THE HAND; the boxes are to be measured before its FAULTS are asked for. */
    private static final class Hand {
        final Chart chart;
        final Boxes boxes;
        final int[] corner = new int[MOST_SITES];

        Hand(Chart chart, Boxes boxes) {
            this.chart = chart;
            this.boxes = boxes;
        }

        int ownFault(int site) {
            return toInt(corner[site] != NONE && !boxes.isFree(boxOf(site, corner[site])));
        }

        int sharedFault(int a, int b) {
            return toInt(corner[a] != NONE && corner[b] != NONE
                    && boxes.doClash(boxOf(a, corner[a]), boxOf(b, corner[b])));
        }

        int countFaults() {
            int sum = 0;
            for (int site = 0; site < chart.sites; site++) {
                sum += ownFault(site);
                for (int other = 0; other < site; other++) {
                    sum += sharedFault(site, other);
                }
            }
            return sum;
        }

        /** A STIR: 10 times the SITE and its CORNER then, or NONE. */
        int mendMost() {
            int fewest = countFaults();
            int mended = NONE;
            int mendedCorner = NONE;
            for (int site = 0; site < chart.sites; site++) {
                int before = corner[site];
                for (int c = 0; c < CORNERS && before != NONE; c++) {
                    corner[site] = c;
                    int left = countFaults();
                    if (left < fewest) {
                        fewest = left;
                        mended = site;
                        mendedCorner = c;
                    }
                }
                corner[site] = before;
            }
            if (mended == NONE) {
                return NONE;
            }
            corner[mended] = mendedCorner;
            return 10 * mended + mendedCorner;
        }
    }

    /** LEVELS: since which one each SITE is SHOWN, and at which CORNER; NONE for both: never. */
    private static final class Levels {
        final Chart chart;
        final Boxes boxes;
        final int[] since = new int[MOST_SITES];
        final int[] corner = new int[MOST_SITES];
        final int[] order = new int[MOST_SITES];

        Levels(Chart chart, Boxes boxes) {
            this.chart = chart;
            this.boxes = boxes;
        }

        void grow() {
            sortByWorth();
            for (int site = 0; site < chart.sites; site++) {
                since[site] = NONE;
                corner[site] = NONE;
            }
            for (int level = 0; level < LEVELS; level++) {
                boxes.measure(chart.size, level + 1);
                for (int turn = 0; turn < chart.sites; turn++) {
                    int site = order[turn];
                    if (since[site] == NONE) {
                        show(site, level);
                    }
                }
            }
        }

        /** The greatest WORTH first; of like ones the least SITE stays ahead. */
        private void sortByWorth() {
            for (int site = 0; site < chart.sites; site++) {
                int turn = site;
                while (turn > 0 && chart.worth[order[turn - 1]] < chart.worth[site]) {
                    order[turn] = order[turn - 1];
                    turn--;
                }
                order[turn] = site;
            }
        }

        private void show(int site, int level) {
            for (int c = 0; c < CORNERS; c++) {
                int box = boxOf(site, c);
                if (boxes.isFree(box) && !clashesWithShown(box)) {
                    since[site] = level;
                    corner[site] = c;
                    return;
                }
            }
        }

        private boolean clashesWithShown(int box) {
            for (int other = 0; other < chart.sites; other++) {
                if (since[other] != NONE && boxes.doClash(box, boxOf(other, corner[other]))) {
                    return true;
                }
            }
            return false;
        }
    }

    /** AT THE EDGE: THE BEST DEAL of one set at a time. */
    private static final class Edge {
        final Chart chart;
        int lines;
        final int[] site = new int[MOST_LINES];
        final int[] place = new int[MOST_LINES];
        final int[] bestPlace = new int[MOST_LINES];
        int fewest;
        int shortest;

        Edge(Chart chart) {
            this.chart = chart;
        }

        /** Only behind the test that the set may be one. */
        void deal(int set) {
            lines = 0;
            for (int s = 0; s < chart.sites && lines < MOST_LINES; s++) {
                if (hasBit(set, s)) {
                    site[lines] = s;
                    lines++;
                }
            }
            fewest = MORE_THAN_ANY;
            shortest = MORE_THAN_ANY;
            seekDeal(this, 0, 0, 0, 0);
        }

        /** SITE by SITE from the least place on: so of like DEALS the first is kept. */
        private static void seekDeal(Edge e, int line, int taken, int crossed, int sum) {
            if (crossed > e.fewest || crossed == e.fewest && sum >= e.shortest) {
                return;
            }
            if (line >= e.lines) {
                e.fewest = crossed;
                e.shortest = sum;
                System.arraycopy(e.place, 0, e.bestPlace, 0, MOST_LINES);
                return;
            }
            for (int p = 0; p < e.lines; p++) {
                if (!hasBit(taken, p)) {
                    e.place[line] = p;
                    seekDeal(e, line + 1, taken | 1 << p, crossed + e.crossedBefore(line), sum + e.lengthOf(line));
                }
            }
        }

        private int crossedBefore(int line) {
            int sum = 0;
            for (int other = 0; other < line; other++) {
                sum += toInt(doCross(site[line], heightOf(line), site[other], heightOf(other)));
            }
            return sum;
        }

        private int heightOf(int line) {
            return lines > 0 ? place[line] * chart.height / lines : 0;
        }

        private int lengthOf(int line) {
            int s = site[line];
            return Math.abs(heightOf(line) - chart.y[s]) + chart.width - chart.x[s];
        }

        int placeOf(int s) {
            for (int line = 0; line < lines; line++) {
                if (site[line] == s) {
                    return bestPlace[line];
                }
            }
            return UNKNOWN;
        }

        /** Both LINES end at x WIDTH, so at one height they always have a point together. */
        boolean doCross(int a, int heightA, int b, int heightB) {
            return heightA == heightB
                    || isFirstPartMet(a, heightA, b, heightB)
                    || isFirstPartMet(b, heightB, a, heightA)
                    || doFirstPartsMeet(a, heightA, b, heightB);
        }

        /** Whether the part along y of one LINE has a point of the part along x of the other. */
        private boolean isFirstPartMet(int a, int heightA, int b, int heightB) {
            return chart.x[b] <= chart.x[a]
                    && Math.min(chart.y[a], heightA) <= heightB
                    && heightB <= Math.max(chart.y[a], heightA);
        }

        private boolean doFirstPartsMeet(int a, int heightA, int b, int heightB) {
            return chart.x[a] == chart.x[b]
                    && Math.min(chart.y[a], heightA) <= Math.max(chart.y[b], heightB)
                    && Math.min(chart.y[b], heightB) <= Math.max(chart.y[a], heightA);
        }
    }
}
