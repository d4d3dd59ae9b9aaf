import java.util.ArrayList;
import java.util.HashSet;
import java.util.List;
import java.util.Random;
import java.util.Set;

/**
 * Random runs of calls against a second, slow writing of the document: every LAYOUT is made and
 * looked at, every DEAL is made, and LINES are sets of points.
 */
public final class OracleTest {
    private static final int NONE = -9;
    private static int wrong = 0;

    public static void main(String[] args) {
        int calls = 0;
        for (int seed = 0; seed < 1500; seed++) {
            calls += run(seed, 60);
        }
        // As many calls as an object is good for.
        for (int seed = 1501; seed < 1540; seed++) {
            calls += run(seed, 512);
        }
        System.out.println(calls + " calls, " + wrong + " answers are not as due");
        if (wrong != 0) {
            System.exit(1);
        }
    }

    private static int run(int seed, int calls) {
        Random random = new Random(seed);
        MapNames real = new MapNames();
        Oracle oracle = new Oracle();
        StringBuilder trace = new StringBuilder();
        // Many SITES make each LAYOUT question dear for the oracle, so most runs have few of them.
        int most = seed % 100 == 0 ? 8 : 2 + seed % 5;
        int mapSide = 10 + random.nextInt(seed % 3 == 0 ? 391 : 90);
        for (int i = 0; i < calls; i++) {
            int[] call = nextCall(random, oracle, i, most, mapSide);
            int got = ask(real, call);
            int want = oracle.ask(call);
            trace.append(java.util.Arrays.toString(call)).append(" -> ").append(got).append('\n');
            if (got != want) {
                wrong++;
                if (wrong <= 3) {
                    System.out.println("seed " + seed + ": due is " + want + " at the end of\n" + trace);
                }
                return i + 1;
            }
        }
        return calls;
    }

    private static int[] nextCall(Random r, Oracle o, int i, int most, int side) {
        if (i == 0) {
            return new int[] {0, side, 10 + r.nextInt(90), 0, 0, 0};
        }
        int what = i <= most ? 1 : r.nextInt(36);
        if (what == 0 && r.nextInt(6) > 0 || what == 1 && i > most && r.nextInt(3) > 0 && o.sites.size() >= most) {
            what = 2;
        }
        int site = arg(r, 0, o.sites.size() - 1, 20);
        int corner = arg(r, 0, 3, 20);
        switch (what) {
            case 0: return new int[] {0, arg(r, 10, 400, 4), arg(r, 10, 400, 4), 0, 0, 0};
            case 1:
                if (o.sites.size() >= most && most < 8) {
                    return new int[] {1, o.width + 1, 0, 1, 1, 1};
                }
                return new int[] {1, near(r, o, 0, o.width), near(r, o, 1, o.height), arg(r, 1, 60, 40),
                    arg(r, 1, 20, 40), r.nextBoolean() ? arg(r, 1, 4, 40) : arg(r, 1, 99, 40)};
            case 2: return new int[] {2, site, near(r, o, 0, o.width), near(r, o, 1, o.height), 0, 0};
            case 3: return new int[] {3, site, corner, r.nextInt(2), 0, 0};
            case 4: return new int[] {4, 0, r.nextBoolean() ? arg(r, 1, 40, 20) : arg(r, 5, 15, 20), 0, 0, 0};
            case 5: return new int[] {4, arg(r, 0, 1, 10), r.nextBoolean() ? r.nextInt(4) : arg(r, 0, 20, 10), 0, 0, 0};
            case 6: return new int[] {6, site, arg(r, 0, 6, 20), 0, 0, 0};
            case 8: return new int[] {8, site, corner, arg(r, 0, o.sites.size() - 1, 20), arg(r, 0, 3, 20), 0};
            case 17: case 34: case 35:
                return new int[] {17, site, r.nextInt(8) == 0 ? NONE : corner, 0, 0, 0};
            case 25: return new int[] {25, arg(r, 0, 5, 10), 0, 0, 0, 0};
            case 28: case 29: case 30: return new int[] {what, setOf(r, o), site, 0, 0, 0};
            case 31: return new int[] {31, site, arg(r, 0, o.height, 20), arg(r, 0, o.sites.size() - 1, 20),
                    arg(r, 0, o.height, 20), 0};
            case 32: return new int[] {32, arg(r, 0, 4, 10), 0, 0, 0, 0};
            case 33: return new int[] {25, arg(r, 0, 5, 10), 0, 0, 0, 0};
            default: return new int[] {what, site, corner, 0, 0, 0};
        }
    }

    private static int setOf(Random r, Oracle o) {
        if (r.nextInt(15) == 0) {
            return r.nextBoolean() ? r.nextInt() : r.nextInt(512);
        }
        return r.nextInt(1 << o.sites.size());
    }

    private static int arg(Random r, int from, int to, int oneIn) {
        if (to < from || r.nextInt(oneIn) == 0) {
            int[] odd = {from - 1, to + 1, Integer.MIN_VALUE, Integer.MAX_VALUE, NONE, from - 32, to + 32};
            return odd[r.nextInt(odd.length)];
        }
        return from + r.nextInt(to - from + 1);
    }

    /** Often close to a SITE that is there, or at the same x or y, so that boxes meet at their rims. */
    private static int near(Random r, Oracle o, int axis, int most) {
        if (o.sites.isEmpty() || r.nextInt(4) == 0) {
            return arg(r, 0, most, 40);
        }
        int[] s = o.sites.get(r.nextInt(o.sites.size()));
        int v = s[axis] + (r.nextInt(3) == 0 ? 0 : r.nextInt(2) == 0 ? r.nextInt(21) - 10 : s[2 + axis] * (r.nextInt(3) - 1));
        return r.nextInt(40) == 0 ? v : Math.max(0, Math.min(most, v));
    }

    private static int ask(MapNames m, int[] c) {
        switch (c[0]) {
            case 0: return m.map(c[1], c[2]);
            case 1: return m.site(c[1], c[2], c[3], c[4], c[5]);
            case 2: return m.move(c[1], c[2], c[3]);
            case 3: return m.allow(c[1], c[2], c[3] == 1);
            case 4: return m.rule(c[1], c[2]);
            case 6: return m.about(c[1], c[2]);
            case 7: return m.free(c[1], c[2]);
            case 8: return m.clash(c[1], c[2], c[3], c[4]);
            case 9: return m.best();
            case 10: return m.at(c[1]);
            case 11: return m.named();
            case 12: return m.full();
            case 13: return m.with(c[1], c[2]);
            case 14: return m.sure(c[1]);
            case 15: return m.greatest();
            case 16: return m.least();
            case 17: return m.put(c[1], c[2]);
            case 18: return m.hand(c[1]);
            case 19: return m.take();
            case 20: return m.faults();
            case 21: return m.faultsOf(c[1]);
            case 22: return m.stir();
            case 23: return m.settle();
            case 24: return m.stands();
            case 25: return m.shown(c[1]);
            case 26: return m.comes(c[1]);
            case 27: return m.shownAt(c[1]);
            case 28: return m.crosses(c[1]);
            case 29: return m.length(c[1]);
            case 30: return m.place(c[1], c[2]);
            case 31: return m.cross(c[1], c[2], c[3], c[4]);
            default: return m.count(c[1]);
        }
    }

    /** A SITE is the row x, y, wide, high, worth, its corner in THE HAND, and four times 1 or 0 for ALLOWED. */
    private static final class Oracle {
        int width = 100;
        int height = 100;
        int size = 10;
        int gap = 0;
        List<int[]> sites = new ArrayList<>();

        int ask(int[] c) {
            int n = sites.size();
            boolean known = c[1] >= 0 && c[1] < n;
            boolean corner = c[2] >= 0 && c[2] <= 3;
            switch (c[0]) {
                case 0:
                    if (c[1] < 10 || c[1] > 400 || c[2] < 10 || c[2] > 400) return -2;
                    width = c[1];
                    height = c[2];
                    sites.clear();
                    return 1;
                case 1:
                    if (c[1] < 0 || c[1] > width || c[2] < 0 || c[2] > height || c[3] < 1 || c[3] > 60
                            || c[4] < 1 || c[4] > 20 || c[5] < 1 || c[5] > 99) return -2;
                    if (n == 8) return -4;
                    sites.add(new int[] {c[1], c[2], c[3], c[4], c[5], NONE, 1, 1, 1, 1});
                    return n;
                case 2:
                    if (!known) return -1;
                    if (c[2] < 0 || c[2] > width || c[3] < 0 || c[3] > height) return -2;
                    int[] moved = sites.get(c[1]);
                    int before = 1000 * moved[0] + moved[1];
                    moved[0] = c[2];
                    moved[1] = c[3];
                    return before;
                case 3:
                    if (!known) return -1;
                    if (!corner) return -2;
                    int was = sites.get(c[1])[6 + c[2]];
                    sites.get(c[1])[6 + c[2]] = c[3];
                    return was;
                case 4:
                    if (c[1] == 0 && c[2] >= 1 && c[2] <= 40) {
                        int old = size;
                        size = c[2];
                        return old;
                    }
                    if (c[1] == 1 && c[2] >= 0 && c[2] <= 20) {
                        int old = gap;
                        gap = c[2];
                        return old;
                    }
                    return -2;
                case 6:
                    if (!known) return -1;
                    if (c[2] < 0 || c[2] > 6) return -2;
                    if (c[2] < 5) return sites.get(c[1])[c[2]];
                    int[] b = box(c[1], 0, 1);
                    return c[2] == 5 ? b[2] - b[0] : b[3] - b[1];
                case 7: return !known ? -1 : !corner ? -2 : bit(free(c[1], c[2], 1));
                case 8:
                    if (!known || c[3] < 0 || c[3] >= n) return -1;
                    if (!corner || c[4] < 0 || c[4] > 3) return -2;
                    return c[1] == c[3] ? -3 : bit(clash(box(c[1], c[2], 1), box(c[3], c[4], 1)));
                case 17:
                    if (!known) return -1;
                    if (!corner && c[2] != NONE) return -2;
                    int held = sites.get(c[1])[5];
                    sites.get(c[1])[5] = c[2];
                    return held;
                case 18: return known ? sites.get(c[1])[5] : -1;
                default: return c[0] < 17 ? askLayouts(c, known, corner) : askRest(c, known);
            }
        }

        private int askLayouts(int[] c, boolean known, boolean corner) {
            switch (c[0]) {
                case 9: return worth(best());
                case 10: return known ? best()[c[1]] : -1;
                case 11:
                    int named = 0;
                    for (int k : best()) named += bit(k != NONE);
                    return named;
                case 12: return fullLayouts().size();
                case 13:
                    if (!known) return -1;
                    if (!corner) return -2;
                    int sum = 0;
                    for (int[] l : fullLayouts()) sum += bit(l[c[1]] == c[2]);
                    return sum;
                case 14:
                    if (!known) return -1;
                    List<int[]> full = fullLayouts();
                    for (int[] l : full) if (l[c[1]] != full.get(0)[c[1]]) return NONE;
                    return full.isEmpty() ? NONE : full.get(0)[c[1]];
                case 15:
                    int told = size;
                    int greatest = NONE;
                    for (size = 1; size <= 40; size++) if (isThereFull()) greatest = size;
                    size = told;
                    return greatest;
                default:
                    int least = Integer.MAX_VALUE;
                    for (int set = 0; set < 1 << sites.size(); set++) {
                        Oracle others = new Oracle();
                        others.width = width;
                        others.height = height;
                        others.size = size;
                        others.gap = gap;
                        int away = 0;
                        for (int s = 0; s < sites.size(); s++) {
                            if ((set >> s & 1) == 1) away += sites.get(s)[4];
                            else others.sites.add(sites.get(s));
                        }
                        if (away < least && others.isThereFull()) least = away;
                    }
                    return least;
            }
        }

        private int askRest(int[] c, boolean known) {
            int n = sites.size();
            switch (c[0]) {
                case 19:
                    int[] best = best();
                    int otherwise = 0;
                    for (int s = 0; s < n; s++) {
                        otherwise += bit(sites.get(s)[5] != best[s]);
                        sites.get(s)[5] = best[s];
                    }
                    return otherwise;
                case 20: return faults(handLayout(), -1);
                case 21: return known ? faults(handLayout(), c[1]) : -1;
                case 22: return stir();
                case 23:
                    int stirs = 0;
                    while (stir() != NONE) stirs++;
                    return stirs;
                case 24: return bit(stands(handLayout()));
                case 25:
                    if (c[1] < 0 || c[1] > 5) return -2;
                    int shown = 0;
                    for (int[] s : levels()) shown += bit(s[0] != NONE && s[0] <= c[1]);
                    return shown;
                case 26: return known ? levels()[c[1]][0] : -1;
                case 27: return known ? levels()[c[1]][1] : -1;
                case 28: case 29: case 30:
                    if (c[1] < 0 || c[1] >= 1 << n || Integer.bitCount(c[1]) > 6) return -2;
                    if (c[0] == 30 && (c[2] < 0 || c[2] >= n || (c[1] >> c[2] & 1) == 0)) return -1;
                    int[] deal = deal(c[1]);
                    return c[0] == 28 ? deal[8] : c[0] == 29 ? deal[9] : deal[c[2]];
                case 31:
                    if (!known || c[3] < 0 || c[3] >= n) return -1;
                    if (c[2] < 0 || c[2] > height || c[4] < 0 || c[4] > height) return -2;
                    return c[1] == c[3] ? -3 : bit(meet(line(c[1], c[2]), line(c[3], c[4])));
                default: return counted(c[1]);
            }
        }

        private int counted(int what) {
            int n = sites.size();
            if (what == 0) return n;
            if (what == 1) return width;
            if (what == 2) return height;
            int free = 0;
            int pairs = 0;
            for (int a = 0; a < 4 * n; a++) {
                free += bit(free(a / 4, a % 4, 1));
                for (int b = a + 1; b < 4 * n; b++) {
                    pairs += bit(a / 4 != b / 4 && free(a / 4, a % 4, 1) && free(b / 4, b % 4, 1)
                            && clash(box(a / 4, a % 4, 1), box(b / 4, b % 4, 1)));
                }
            }
            return what == 3 ? free : what == 4 ? pairs : -2;
        }

        static int bit(boolean is) {
            return is ? 1 : 0;
        }

        /** Least x, least y, greatest x, greatest y. */
        int[] box(int site, int corner, int times) {
            int[] s = sites.get(site);
            int w = s[2] * size / 10 < 1 ? 1 : s[2] * size / 10;
            int h = s[3] * size / 10 < 1 ? 1 : s[3] * size / 10;
            int x = s[0] * times;
            int y = s[1] * times;
            switch (corner) {
                case 0: return new int[] {x, y, x + w, y + h};
                case 1: return new int[] {x - w, y, x, y + h};
                case 2: return new int[] {x - w, y - h, x, y};
                default: return new int[] {x, y - h, x + w, y};
            }
        }

        boolean free(int site, int corner, int times) {
            int[] b = box(site, corner, times);
            if (sites.get(site)[6 + corner] == 0 || b[0] < 0 || b[1] < 0 || b[2] > width * times || b[3] > height * times) {
                return false;
            }
            for (int other = 0; other < sites.size(); other++) {
                int x = sites.get(other)[0] * times;
                int y = sites.get(other)[1] * times;
                if (other != site && x > b[0] && x < b[2] && y > b[1] && y < b[3]) return false;
            }
            return true;
        }

        boolean clash(int[] a, int[] b) {
            return a[0] < b[2] + gap && b[0] < a[2] + gap && a[1] < b[3] + gap && b[1] < a[3] + gap;
        }

        int faults(int[] layout, int only) {
            int sum = 0;
            for (int a = 0; a < layout.length; a++) {
                if (layout[a] == NONE) continue;
                sum += bit(!free(a, layout[a], 1) && (only < 0 || only == a));
                for (int b = a + 1; b < layout.length; b++) {
                    sum += bit(layout[b] != NONE && (only < 0 || only == a || only == b)
                            && clash(box(a, layout[a], 1), box(b, layout[b], 1)));
                }
            }
            return sum;
        }

        boolean stands(int[] layout) {
            return faults(layout, -1) == 0;
        }

        int[] handLayout() {
            int[] layout = new int[sites.size()];
            for (int s = 0; s < layout.length; s++) layout[s] = sites.get(s)[5];
            return layout;
        }

        int worth(int[] layout) {
            int sum = 0;
            for (int s = 0; s < layout.length; s++) sum += layout[s] == NONE ? 0 : sites.get(s)[4];
            return sum;
        }

        /** Number k of all LAYOUTS in their order. */
        int[] layout(int k, int kinds) {
            int[] layout = new int[sites.size()];
            for (int s = layout.length - 1; s >= 0; s--) {
                layout[s] = k % kinds == 4 ? NONE : k % kinds;
                k /= kinds;
            }
            return layout;
        }

        int power(int base) {
            int p = 1;
            for (int s = 0; s < sites.size(); s++) p *= base;
            return p;
        }

        int[] best() {
            boolean[][] good = goodPairs();
            int[] best = null;
            for (int k = 0; k < power(5); k++) {
                int[] l = layout(k, 5);
                if ((best == null || worth(l) > worth(best)) && isGood(l, good)) best = l;
            }
            return best;
        }

        List<int[]> fullLayouts() {
            boolean[][] good = goodPairs();
            List<int[]> all = new ArrayList<>();
            for (int k = 0; k < power(4); k++) {
                int[] l = layout(k, 4);
                if (isGood(l, good)) all.add(l);
            }
            return all;
        }

        boolean isThereFull() {
            boolean[][] good = goodPairs();
            for (int k = 0; k < power(4); k++) {
                if (isGood(layout(k, 4), good)) return true;
            }
            return false;
        }

        /** Of boxes of two SITES whether they do not CLASH, of a box with itself whether it is FREE. */
        boolean[][] goodPairs() {
            int n = 4 * sites.size();
            boolean[][] good = new boolean[n][n];
            for (int a = 0; a < n; a++) {
                for (int b = 0; b < n; b++) {
                    good[a][b] = a == b ? free(a / 4, a % 4, 1) : !clash(box(a / 4, a % 4, 1), box(b / 4, b % 4, 1));
                }
            }
            return good;
        }

        static boolean isGood(int[] layout, boolean[][] good) {
            for (int a = 0; a < layout.length; a++) {
                for (int b = 0; b <= a; b++) {
                    if (layout[a] != NONE && layout[b] != NONE && !good[4 * a + layout[a]][4 * b + layout[b]]) return false;
                }
            }
            return true;
        }

        int stir() {
            int[] now = handLayout();
            int fewest = faults(now, -1);
            int change = NONE;
            for (int s = 0; s < now.length; s++) {
                for (int c = 0; c < 4; c++) {
                    if (now[s] == NONE || now[s] == c) continue;
                    int[] then = now.clone();
                    then[s] = c;
                    if (faults(then, -1) < fewest) {
                        fewest = faults(then, -1);
                        change = 10 * s + c;
                    }
                }
            }
            if (change != NONE) sites.get(change / 10)[5] = change % 10;
            return change;
        }

        int[][] levels() {
            int[][] shown = new int[sites.size()][];
            for (int s = 0; s < shown.length; s++) shown[s] = new int[] {NONE, NONE};
            for (int z = 0; z <= 5; z++) {
                for (int worth = 99; worth >= 1; worth--) {
                    for (int s = 0; s < shown.length; s++) {
                        for (int c = 0; c < 4 && sites.get(s)[4] == worth && shown[s][0] == NONE; c++) {
                            boolean may = free(s, c, z + 1);
                            for (int o = 0; o < shown.length; o++) {
                                may &= shown[o][0] == NONE || !clash(box(s, c, z + 1), box(o, shown[o][1], z + 1));
                            }
                            if (may) shown[s] = new int[] {z, c};
                        }
                    }
                }
            }
            return shown;
        }

        Set<Integer> line(int site, int to) {
            Set<Integer> points = new HashSet<>();
            int x = sites.get(site)[0];
            int y = sites.get(site)[1];
            for (int v = Math.min(y, to); v <= Math.max(y, to); v++) points.add(1000 * x + v);
            for (int v = x; v <= width; v++) points.add(1000 * v + to);
            return points;
        }

        static boolean meet(Set<Integer> a, Set<Integer> b) {
            for (int point : a) if (b.contains(point)) return true;
            return false;
        }

        /** The places by SITE, behind them how many pairs CROSS and how long the LINES are. */
        int[] deal(int set) {
            List<Integer> of = new ArrayList<>();
            for (int s = 0; s < 8; s++) if ((set >> s & 1) == 1) of.add(s);
            int n = of.size();
            List<List<Set<Integer>>> lines = new ArrayList<>();
            for (int s : of) {
                List<Set<Integer>> row = new ArrayList<>();
                for (int p = 0; p < n; p++) row.add(line(s, p * height / n));
                lines.add(row);
            }
            boolean[][] met = new boolean[n * n][n * n];
            for (int i = 0; i < n * n; i++) {
                for (int j = 0; j < n * n; j++) met[i][j] = meet(lines.get(i / n).get(i % n), lines.get(j / n).get(j % n));
            }
            List<int[]> deals = new ArrayList<>();
            permute(new int[n], 0, deals);
            int[] best = null;
            for (int[] deal : deals) {
                int[] row = new int[10];
                for (int i = 0; i < n; i++) {
                    row[of.get(i)] = deal[i];
                    // A LINE of points has one point more than it is LONG.
                    row[9] += lines.get(i).get(deal[i]).size() - 1;
                    for (int j = 0; j < i; j++) row[8] += bit(met[i * n + deal[i]][j * n + deal[j]]);
                }
                if (best == null || row[8] < best[8] || row[8] == best[8] && row[9] < best[9]) best = row;
            }
            return best;
        }

        static void permute(int[] deal, int k, List<int[]> deals) {
            if (k == deal.length) {
                deals.add(deal.clone());
                return;
            }
            for (int p = 0; p < deal.length; p++) {
                boolean used = false;
                for (int i = 0; i < k; i++) used |= deal[i] == p;
                if (!used) {
                    deal[k] = p;
                    permute(deal, k + 1, deals);
                }
            }
        }
    }
}
