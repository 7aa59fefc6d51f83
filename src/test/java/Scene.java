/** What several tests share: the count of answers, ready objects, and rows of answers due. */
abstract class Scene {
    static final int NONE = AdvisoryMatch.NONE;
    static final int MIN = Integer.MIN_VALUE;
    static final int MAX = Integer.MAX_VALUE;
    static final Check check = new Check();

    /** An object with packages that have the versions 10, 20, .. each; none is installed. */
    static AdvisoryMatch withPacks(int packs, int versions) {
        AdvisoryMatch x = new AdvisoryMatch();
        for (int p = 0; p < packs; p++) {
            x.pack(p == 0);
            for (int v = 1; v <= versions; v++) {
                x.version(p, 10 * v);
            }
        }
        return x;
    }

    /** Numbers that name nothing where there are count things, 0 .. count - 1. */
    static int[] notBelow(int count) {
        return new int[] {count, count + 1, count + 100, NONE, -2, MIN, MIN + 1, MAX - 1, MAX};
    }

    /** Each package with one version, 10, installed and hit by an advisory of its number. */
    static AdvisoryMatch allHit(int packs) {
        AdvisoryMatch x = withPacks(packs, 1);
        for (int p = 0; p < packs; p++) {
            x.install(p, 0);
            advisoryOn(x, p, 0, NONE);
        }
        return x;
    }

    static AdvisoryMatch withAdvisories(int count) {
        AdvisoryMatch x = withPacks(1, 1);
        for (int a = 0; a < count; a++) {
            x.advisory(0);
        }
        return x;
    }

    static void installAll(AdvisoryMatch x, int... places) {
        for (int p = 0; p < places.length; p++) {
            check.yes("install(" + p + ", " + places[p] + ")", x.install(p, places[p]));
        }
    }

    static void dueHit(AdvisoryMatch x, int i, int... parts) {
        for (int what = 0; what < parts.length; what++) {
            check.same("hit(" + i + ", " + what + ")", parts[what], x.hit(i, what));
        }
    }

    static void duePlan(AdvisoryMatch x, int changed, int... places) {
        check.same("plan()", changed, x.plan());
        for (int p = 0; p < places.length; p++) {
            check.same("planned(" + p + ")", places[p], x.planned(p));
        }
    }

    /** A new advisory of a package with one span. */
    static int advisoryOn(AdvisoryMatch x, int pack, int from, int to) {
        int number = x.advisory(pack);
        check.yes("span(" + number + ", " + from + ", " + to + ")", x.span(number, from, to));
        return number;
    }

    static void dueHitPlaces(AdvisoryMatch x, boolean... struck) {
        for (int place = 0; place < struck.length; place++) {
            x.install(0, place);
            check.same("hits() at place " + place, struck[place] ? 1 : 0, x.hits());
        }
    }

    static void dueGroups(AdvisoryMatch x, int... groups) {
        for (int a = 0; a < groups.length; a++) {
            check.same("group(" + a + ")", groups[a], x.group(a));
        }
    }

    static void dueExcepted(AdvisoryMatch x, int... excepted) {
        dueOfEachHit(x, 5, excepted);
    }

    static void dueFar(AdvisoryMatch x, int... far) {
        dueOfEachHit(x, 3, far);
    }

    static void dueReached(AdvisoryMatch x, int... reached) {
        dueOfEachHit(x, 4, reached);
    }

    /** Counts the hits anew and looks at one part of each. */
    private static void dueOfEachHit(AdvisoryMatch x, int what, int... parts) {
        check.same("hits()", parts.length, x.hits());
        for (int i = 0; i < parts.length; i++) {
            check.same("hit(" + i + ", " + what + ")", parts[i], x.hit(i, what));
        }
    }
}
