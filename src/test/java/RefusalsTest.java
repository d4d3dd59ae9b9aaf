import java.util.ArrayList;
import java.util.List;

/**
 * REFUSALS of ../shared/DOC.md, of all calls: each argument goes through the numbers at its bounds,
 * those just beyond them, and the least and the greatest int, with all those of the other arguments.
 * So it is seen which refusal comes first where several apply, and that what is refused changes nothing.
 * All this with no SITE, with some, and with as many as there may be.
 */
public final class RefusalsTest {
    private static final int UNKNOWN = -1, OUTSIDE = -2, STATE = -3, FULL = -4, NONE = -9;
    private static final int NO_REFUSAL = 0;
    private static final int LEAST = Integer.MIN_VALUE, GREATEST = Integer.MAX_VALUE;
    private static final int[] CORNERS = {LEAST, -32, -10, NONE, -8, -1, 0, 3, 4, 32, GREATEST};
    private static int wrong = 0;
    private static int calls = 0;

    private interface Call {
        int on(MapNames m);
    }

    private static final class Refused {
        final String text;
        final Call call;

        Refused(String text, Call call) {
            this.text = text;
            this.call = call;
        }
    }

    /** What there is before the call; and the calls that were refused there. */
    private static final class World {
        final int sites;
        final int width;
        final int height;
        final List<Refused> refused = new ArrayList<>();

        World(int sites, int width, int height) {
            this.sites = sites;
            this.width = width;
            this.height = height;
        }

        boolean has(int site) {
            return site >= 0 && site < sites;
        }

        /** Numbers that are SITES, and such as are not. */
        int[] someSites() {
            return new int[] {LEAST, -32, NONE, -1, 0, sites - 1, sites, 7, 8, 32, GREATEST};
        }

        int[] someSets() {
            int all = (1 << sites) - 1;
            return new int[] {LEAST, -1, 0, 1, all, all & 0x3F, all & 0xFC, 1 << sites, 0x7F, 0xFE, 0x100, 0x103,
                1 << 30, GREATEST};
        }

        boolean isSet(int set) {
            int bits = 0;
            for (int bit = 0; bit < 32; bit++) {
                if ((set & 1 << bit) != 0) {
                    if (!has(bit)) {
                        return false;
                    }
                    bits++;
                }
            }
            return bits <= 6;
        }

        MapNames make() {
            MapNames m = new MapNames();
            m.map(width, height);
            m.rule(0, 3 + sites);
            m.rule(1, sites / 2);
            for (int site = 0; site < sites; site++) {
                m.site((site * 37 + 5) % (width + 1), (site * 23 + 2) % (height + 1), 7 + site, 3 + site, 1 + site % 4);
                m.put(site, site % 4);
                m.allow(site, (site + 1) % 4, false);
            }
            return m;
        }
    }

    public static void main(String[] args) {
        World[] worlds = {new World(0, 100, 100), new World(1, 10, 400), new World(3, 60, 40), new World(7, 100, 50),
            new World(8, 400, 10)};
        for (World w : worlds) {
            theMap(w);
            bestLayouts(w);
            byHand(w);
            levels(w);
            atTheEdge(w);
            changesNothing(w);
        }
        System.out.println(wrong == 0 ? calls + " calls are refused, or not, as due" : wrong + " answers are not as due");
        if (wrong != 0) {
            System.exit(1);
        }
    }

    private static void due(World w, int promise, int refusal, String name, Call call, int... args) {
        StringBuilder text = new StringBuilder(name);
        for (int arg : args) {
            text.append(' ').append(arg);
        }
        int got = call.on(w.make());
        calls++;
        boolean isRefused = got == UNKNOWN || got == OUTSIDE || got == STATE || got == FULL;
        if (refusal == NO_REFUSAL ? isRefused : got != refusal) {
            say("promise " + promise + " with " + w.sites + " SITES: " + text + " answered " + got + ", due is "
                + (refusal == NO_REFUSAL ? "no refusal" : refusal));
        }
        if (refusal != NO_REFUSAL) {
            w.refused.add(new Refused(text.toString(), call));
        }
    }

    private static void say(String text) {
        wrong++;
        if (wrong <= 20) {
            System.out.println(text);
        }
    }

    private static int first(boolean unknown, boolean outside, boolean state) {
        return unknown ? UNKNOWN : outside ? OUTSIDE : state ? STATE : NO_REFUSAL;
    }

    private static boolean isIn(int v, int from, int to) {
        return v >= from && v <= to;
    }

    private static boolean isCorner(int corner) {
        return isIn(corner, 0, 3);
    }

    /** Around the bounds of a number that may go from one to the other. */
    private static int[] around(int from, int to) {
        return new int[] {LEAST, from - 1, from, to, to + 1, GREATEST};
    }

    private static void theMap(World w) {
        for (int width : around(10, 400)) {
            for (int height : around(10, 400)) {
                boolean outside = !isIn(width, 10, 400) || !isIn(height, 10, 400);
                due(w, 2, first(false, outside, false), "map", m -> m.map(width, height), width, height);
            }
        }
        newSites(w);
        for (int site : w.someSites()) {
            for (int x : around(0, w.width)) {
                for (int y : around(0, w.height)) {
                    boolean outside = !isIn(x, 0, w.width) || !isIn(y, 0, w.height);
                    due(w, 4, first(!w.has(site), outside, false), "move", m -> m.move(site, x, y), site, x, y);
                }
            }
            for (int corner : CORNERS) {
                int refusal = first(!w.has(site), !isCorner(corner), false);
                due(w, 5, refusal, "allow", m -> m.allow(site, corner, true), site, corner, 1);
                due(w, 5, refusal, "allow", m -> m.allow(site, corner, false), site, corner, 0);
                due(w, 8, refusal, "free", m -> m.free(site, corner), site, corner);
            }
            for (int what : around(0, 6)) {
                due(w, 7, first(!w.has(site), !isIn(what, 0, 6), false), "about", m -> m.about(site, what), site, what);
            }
        }
        rules(w);
        clashes(w);
    }

    private static void newSites(World w) {
        for (int x : around(0, w.width)) {
            for (int y : around(0, w.height)) {
                for (int wide : around(1, 60)) {
                    for (int high : around(1, 20)) {
                        for (int worth : around(1, 99)) {
                            boolean isOutside = !isIn(x, 0, w.width) || !isIn(y, 0, w.height) || !isIn(wide, 1, 60)
                                || !isIn(high, 1, 20) || !isIn(worth, 1, 99);
                            int refusal = isOutside ? OUTSIDE : w.sites == 8 ? FULL : NO_REFUSAL;
                            due(w, 3, refusal, "site", m -> m.site(x, y, wide, high, worth), x, y, wide, high, worth);
                        }
                    }
                }
            }
        }
    }

    private static void rules(World w) {
        for (int what : around(0, 1)) {
            for (int v : new int[] {LEAST, -1, 0, 1, 20, 21, 40, 41, GREATEST}) {
                boolean isRule = what == 0 && isIn(v, 1, 40) || what == 1 && isIn(v, 0, 20);
                due(w, 6, first(false, !isRule, false), "rule", m -> m.rule(what, v), what, v);
            }
        }
    }

    private static void clashes(World w) {
        for (int a : w.someSites()) {
            for (int b : w.someSites()) {
                for (int corner : CORNERS) {
                    for (int other : CORNERS) {
                        int refusal = first(!w.has(a) || !w.has(b), !isCorner(corner) || !isCorner(other), a == b);
                        due(w, 9, refusal, "clash", m -> m.clash(a, corner, b, other), a, corner, b, other);
                    }
                }
            }
        }
    }

    private static void bestLayouts(World w) {
        due(w, 10, NO_REFUSAL, "best", m -> m.best());
        due(w, 12, NO_REFUSAL, "named", m -> m.named());
        due(w, 13, NO_REFUSAL, "full", m -> m.full());
        due(w, 16, NO_REFUSAL, "greatest", m -> m.greatest());
        due(w, 17, NO_REFUSAL, "least", m -> m.least());
        for (int site : w.someSites()) {
            int unknown = first(!w.has(site), false, false);
            due(w, 11, unknown, "at", m -> m.at(site), site);
            due(w, 15, unknown, "sure", m -> m.sure(site), site);
            for (int corner : CORNERS) {
                due(w, 14, first(!w.has(site), !isCorner(corner), false), "with", m -> m.with(site, corner), site,
                    corner);
            }
        }
    }

    private static void byHand(World w) {
        due(w, 20, NO_REFUSAL, "take", m -> m.take());
        due(w, 21, NO_REFUSAL, "faults", m -> m.faults());
        due(w, 23, NO_REFUSAL, "stir", m -> m.stir());
        due(w, 24, NO_REFUSAL, "settle", m -> m.settle());
        due(w, 25, NO_REFUSAL, "stands", m -> m.stands());
        for (int site : w.someSites()) {
            int unknown = first(!w.has(site), false, false);
            due(w, 19, unknown, "hand", m -> m.hand(site), site);
            due(w, 22, unknown, "faultsOf", m -> m.faultsOf(site), site);
            for (int corner : CORNERS) {
                boolean outside = !isCorner(corner) && corner != NONE;
                due(w, 18, first(!w.has(site), outside, false), "put", m -> m.put(site, corner), site, corner);
            }
        }
    }

    private static void levels(World w) {
        for (int level : around(0, 5)) {
            due(w, 26, first(false, !isIn(level, 0, 5), false), "shown", m -> m.shown(level), level);
        }
        for (int site : w.someSites()) {
            int unknown = first(!w.has(site), false, false);
            due(w, 27, unknown, "comes", m -> m.comes(site), site);
            due(w, 28, unknown, "shownAt", m -> m.shownAt(site), site);
        }
    }

    private static void atTheEdge(World w) {
        for (int set : w.someSets()) {
            int outside = first(false, !w.isSet(set), false);
            due(w, 29, outside, "crosses", m -> m.crosses(set), set);
            due(w, 30, outside, "length", m -> m.length(set), set);
            for (int site : w.someSites()) {
                // Here OUTSIDE is named first.
                boolean isOfIt = w.has(site) && (set & 1 << site) != 0;
                int refusal = !w.isSet(set) ? OUTSIDE : isOfIt ? NO_REFUSAL : UNKNOWN;
                due(w, 31, refusal, "place", m -> m.place(set, site), set, site);
            }
        }
        for (int what : around(0, 4)) {
            due(w, 33, first(false, !isIn(what, 0, 4), false), "count", m -> m.count(what), what);
        }
        for (int a : w.someSites()) {
            for (int b : w.someSites()) {
                for (int height : around(0, w.height)) {
                    for (int other : around(0, w.height)) {
                        boolean outside = !isIn(height, 0, w.height) || !isIn(other, 0, w.height);
                        int refusal = first(!w.has(a) || !w.has(b), outside, a == b);
                        due(w, 32, refusal, "cross", m -> m.cross(a, height, b, other), a, height, b, other);
                    }
                }
            }
        }
    }

    /** Some refused calls at once on one object, that is used for 512 at most; if they change it, each alone. */
    private static void changesNothing(World w) {
        String before = everything(w.make());
        int atOnce = 100;
        for (int from = 0; from < w.refused.size(); from += atOnce) {
            List<Refused> some = w.refused.subList(from, Math.min(from + atOnce, w.refused.size()));
            if (!everythingAfter(w, some).equals(before)) {
                for (Refused one : some) {
                    if (!everythingAfter(w, List.of(one)).equals(before)) {
                        say("with " + w.sites + " SITES: " + one.text + " is refused, but changes something");
                    }
                }
            }
        }
    }

    private static String everythingAfter(World w, List<Refused> some) {
        MapNames m = w.make();
        for (Refused one : some) {
            one.call.on(m);
        }
        return everything(m);
    }

    /** All that can be asked for; what changes something comes last. */
    private static String everything(MapNames m) {
        List<Integer> all = new ArrayList<>();
        for (int what = 0; what < 6; what++) {
            all.add(m.count(what));
            all.add(m.shown(what));
        }
        for (int site = 0; site < 8; site++) {
            for (int what = 0; what < 7; what++) {
                all.add(m.about(site, what));
            }
            for (int corner = 0; corner < 4; corner++) {
                all.add(m.free(site, corner));
                all.add(m.with(site, corner));
                all.add(m.clash(site, corner, 0, 3 - corner));
            }
            all.add(m.at(site));
            all.add(m.sure(site));
            all.add(m.hand(site));
            all.add(m.faultsOf(site));
            all.add(m.comes(site));
            all.add(m.shownAt(site));
            all.add(m.cross(site, 1, 0, 9));
            all.add(m.place(7, site));
        }
        for (int set = 0; set < 8; set++) {
            all.add(m.crosses(set));
            all.add(m.length(set));
        }
        all.add(m.best());
        all.add(m.named());
        all.add(m.full());
        all.add(m.greatest());
        all.add(m.least());
        all.add(m.faults());
        all.add(m.stands());
        changing(m, all);
        return all.toString();
    }

    private static void changing(MapNames m, List<Integer> all) {
        all.add(m.stir());
        all.add(m.settle());
        all.add(m.take());
        for (int site = 0; site < 8; site++) {
            for (int corner = 0; corner < 4; corner++) {
                all.add(m.allow(site, corner, true));
            }
        }
        all.add(m.rule(0, 10));
        all.add(m.rule(1, 0));
        all.add(m.site(0, 0, 1, 1, 1));
    }
}
