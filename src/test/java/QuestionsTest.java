import java.util.ArrayList;
import java.util.List;

/**
 * A question answers the same on a new object as behind any other question: none changes anything,
 * and none answers with what another one left behind. Nor does an object know of another one.
 */
public final class QuestionsTest {
    private static final String[] NAMES = {"count", "about", "free", "clash", "best", "at", "named", "full", "with",
        "sure", "greatest", "least", "hand", "faults", "faultsOf", "stands", "shown", "comes", "shownAt", "crosses",
        "length", "place", "cross"};
    private static int wrong = 0;

    public static void main(String[] args) {
        for (int sites = 0; sites <= 8; sites++) {
            List<int[]> questions = questions(sites);
            for (int[] asked : questions) {
                int alone = ask(world(sites), asked);
                for (int[] before : questions) {
                    MapNames m = world(sites);
                    ask(m, before);
                    due(sites, before, asked, ask(m, asked), alone);
                }
            }
            behindAll(sites, questions);
            sideBySide(sites, questions);
        }
        System.out.println(wrong == 0 ? "questions change nothing" : wrong + " answers are not as due");
        if (wrong != 0) {
            System.exit(1);
        }
    }

    private static void due(int sites, int[] before, int[] asked, int got, int want) {
        if (got != want) {
            wrong++;
            if (wrong <= 20) {
                System.out.println("with " + sites + " SITES " + text(asked) + " behind " + text(before) + " answered "
                    + got + ", due is " + want);
            }
        }
    }

    private static String text(int[] q) {
        return NAMES[q[0]] + "(" + q[1] + ", " + q[2] + ")";
    }

    /** What a STIR, TO SETTLE and to take do is the same behind all questions too. */
    private static void behindAll(int sites, List<int[]> questions) {
        for (int change = 0; change < 3; change++) {
            MapNames fresh = world(sites);
            MapNames asked = world(sites);
            for (int[] q : questions) {
                ask(asked, q);
            }
            int want = change(fresh, change);
            due(sites, questions.get(0), questions.get(0), change(asked, change), want);
            for (int[] q : questions) {
                due(sites, q, q, ask(asked, q), ask(fresh, q));
            }
        }
    }

    /** Two objects that are asked by turns answer as each does alone, also while the other one is changed. */
    private static void sideBySide(int sites, List<int[]> questions) {
        MapNames one = world(sites);
        MapNames two = world(8 - sites);
        MapNames oneAlone = world(sites);
        MapNames twoAlone = world(8 - sites);
        int[] first = new int[questions.size()];
        for (int i = 0; i < first.length; i++) {
            first[i] = ask(oneAlone, questions.get(i));
        }
        for (int i = 0; i < first.length; i++) {
            int[] q = questions.get(i);
            if (i % 10 == 0) {
                due(8 - sites, q, q, change(two, i / 10 % 3), change(twoAlone, i / 10 % 3));
                two.rule(0, 1 + i % 40);
                twoAlone.rule(0, 1 + i % 40);
            }
            due(sites, q, q, ask(one, q), first[i]);
            due(8 - sites, q, q, ask(two, q), ask(twoAlone, q));
        }
    }

    private static int change(MapNames m, int change) {
        return change == 0 ? m.stir() : change == 1 ? m.settle() : m.take();
    }

    private static MapNames world(int sites) {
        MapNames m = new MapNames();
        m.map(30 + 10 * sites, 60);
        m.rule(0, 13);
        m.rule(1, 2);
        for (int site = 0; site < sites; site++) {
            m.site(site * 17 % 30, site * 11 % 60, 4 + site, 3 + site % 3, 1 + site * 5 % 7);
            m.put(site, site * 3 % 4);
            m.allow(site, (site + 1) % 4, site % 3 != 0);
        }
        return m;
    }

    private static List<int[]> questions(int sites) {
        List<int[]> all = new ArrayList<>();
        for (int name = 0; name < NAMES.length; name++) {
            all.add(new int[] {name, 0, 0});
            all.add(new int[] {name, 1, 2});
            all.add(new int[] {name, sites - 1, 3});
            all.add(new int[] {name, 5, 5});
        }
        return all;
    }

    private static int ask(MapNames m, int[] q) {
        switch (NAMES[q[0]]) {
            case "count": return m.count(q[1]);
            case "about": return m.about(q[1], q[2]);
            case "free": return m.free(q[1], q[2]);
            case "clash": return m.clash(q[1], q[2], 0, 1);
            case "best": return m.best();
            case "at": return m.at(q[1]);
            case "named": return m.named();
            case "full": return m.full();
            case "with": return m.with(q[1], q[2]);
            case "sure": return m.sure(q[1]);
            case "greatest": return m.greatest();
            case "least": return m.least();
            case "hand": return m.hand(q[1]);
            case "faults": return m.faults();
            case "faultsOf": return m.faultsOf(q[1]);
            case "stands": return m.stands();
            case "shown": return m.shown(q[1]);
            case "comes": return m.comes(q[1]);
            case "shownAt": return m.shownAt(q[1]);
            case "crosses": return m.crosses(q[1] + q[2]);
            case "length": return m.length(q[1] + q[2]);
            case "place": return m.place(q[1] + q[2], q[1]);
            default: return m.cross(q[1], q[2], 0, 7);
        }
    }
}
