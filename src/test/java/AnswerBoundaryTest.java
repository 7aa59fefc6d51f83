/** The boundary cases that promises 16 to 21 name, each with a test that quotes its words. */
public final class AnswerBoundaryTest extends Scene {
    public static void main(String[] args) {
        noHits();
        allHitsThereCanBe();
        hitsAsTheyAreNow();
        hitOfNone();
        hitForAnotherWhat();
        hitOfTheLatestHits();
        farAndReachedAtTheirEnds();
        noneBroken();
        allBroken();
        noPlan();
        planThatChangesNone();
        planThatChangesAll();
        planBeforeStays();
        plannedOfNone();
        plannedGivesNone();
        updateWithoutAPlan();
        updateOfNoneAndOfAll();
        updateLeavesWhatIsNotInstalled();
        updateLeavesWhatThePlanGaveNone();
        check.end("AnswerBoundaryTest");
    }

    private static void noHits() {
        check.about("16: 'How many HITS there are now', none");
        check.same("hits() of an empty object", 0, new AdvisoryMatch().hits());
        check.same("hits() without advisories", 0, installedAt(0, 0).hits());
        AdvisoryMatch x = withPacks(1, 1);
        advisoryOn(x, 0, 0, NONE);
        check.same("hits() without an installed package", 0, x.hits());
        AdvisoryMatch y = withAdvisories(1);
        y.install(0, 0);
        check.same("hits() without spans", 0, y.hits());
    }

    /** As many packages as places, each with the versions 10 .. 50, installed at its place. */
    private static AdvisoryMatch installedAt(int... places) {
        AdvisoryMatch x = withPacks(places.length, 5);
        installAll(x, places);
        return x;
    }

    private static void allHitsThereCanBe() {
        check.about("16: 'How many HITS there are now', 12");
        AdvisoryMatch x = installedAt(0, 1, 2, 3, 4, 0);
        for (int a = 0; a < 12; a++) {
            advisoryOn(x, 5 - a % 6, 0, NONE);
            x.severity(a, 0, 0, 0, 0, a);
        }
        check.same("hits()", 12, x.hits());
        for (int i = 0; i < 12; i++) {
            int group = 5 - i / 2 + (i % 2 == 0 ? 0 : 6);
            dueHit(x, i, i / 2, group, x.score(group), i < 2 ? 0 : NONE, i < 2 ? 1 : 0, 0);
        }
        check.same("hit(12, 0)", NONE, x.hit(12, 0));
        check.same("hits() again", 12, x.hits());
        for (int a = 1; a < 12; a++) {
            x.same(a, a - 1);
        }
        check.same("hits() of one group of all", 6, x.hits());
        for (int i = 0; i < 6; i++) {
            dueHit(x, i, i, 0);
        }
    }

    private static void hitsAsTheyAreNow() {
        check.about("16: 'they are told by hit, as they are now'");
        AdvisoryMatch x = allHit(2);
        check.same("hits()", 2, x.hits());
        x.install(0, NONE);
        x.tick(7);
        x.withdraw(1, true);
        dueHit(x, 0, 0, 0, 0, 0, 1, 0);
        dueHit(x, 1, 1, 1, 0, NONE, 0, 0);
        check.same("hits()", 0, x.hits());
        dueHit(x, 0, NONE, NONE, NONE, NONE, NONE, NONE);
        dueHit(x, 1, NONE, NONE, NONE, NONE, NONE, NONE);
    }

    private static void hitOfNone() {
        check.about("17: 'NONE if there is none such'");
        AdvisoryMatch x = allHit(6);
        for (int what = -1; what <= 6; what++) {
            check.same("hit(0, " + what + ") before hits()", NONE, x.hit(0, what));
        }
        check.same("hits()", 6, x.hits());
        for (int none : notBelow(6)) {
            for (int what = 0; what < 6; what++) {
                check.same("hit(" + none + ", " + what + ")", NONE, x.hit(none, what));
            }
        }
        check.same("hit(0, 0)", 0, x.hit(0, 0));
        check.same("hit(5, 0)", 5, x.hit(5, 0));
    }

    private static void hitForAnotherWhat() {
        check.about("17: 'or for another what'");
        AdvisoryMatch x = allHit(6);
        x.hits();
        for (int i = 0; i < 6; i++) {
            for (int what : notBelow(6)) {
                check.same("hit(" + i + ", " + what + ")", NONE, x.hit(i, what));
            }
            check.same("hit(" + i + ", 5)", 0, x.hit(i, 5));
        }
    }

    private static void hitOfTheLatestHits() {
        check.about("17: 'of the latest hits', fewer than before");
        AdvisoryMatch x = allHit(3);
        check.same("hits()", 3, x.hits());
        x.install(0, NONE);
        check.same("hits()", 2, x.hits());
        dueHit(x, 0, 1, 1);
        dueHit(x, 1, 2, 2);
        dueHit(x, 2, NONE, NONE);
        x.install(0, 0);
        dueHit(x, 2, NONE, NONE);
        check.same("hits()", 3, x.hits());
        dueHit(x, 2, 2, 2);
    }

    private static void farAndReachedAtTheirEnds() {
        check.about("17: '3 FAR, 4 whether it is REACHED', at their ends");
        AdvisoryMatch x = allHit(6);
        dueFar(x, 0, NONE, NONE, NONE, NONE, NONE);
        dueReached(x, 1, 0, 0, 0, 0, 0);
        // The longest way there is, told from its end.
        for (int p = 5; p > 0; p--) {
            x.call(x.need(p - 1, 10, p, 10, 11), true);
        }
        dueFar(x, 0, 1, 2, 3, 4, 5);
        dueReached(x, 1, 1, 1, 1, 1, 1);
        x.call(4, false);
        dueFar(x, 0, 1, 2, 3, 4, 5);
        dueReached(x, 1, 0, 0, 0, 0, 0);
        x.call(4, true);
        x.call(0, false);
        dueFar(x, 0, 1, 2, 3, 4, 5);
        dueReached(x, 1, 1, 1, 1, 1, 0);
    }

    private static void noneBroken() {
        check.about("18: 'How many ACTIVE NEEDS don't HOLD', none");
        AdvisoryMatch x = installedAt(1, 1);
        check.same("broken() without needs", 0, x.broken());
        x.need(0, 21, 1, 0, 0);
        x.need(0, 20, 1, 20, 21);
        check.same("broken()", 0, x.broken());
        x.install(0, NONE);
        check.same("broken() without the package", 0, x.broken());
    }

    private static void allBroken() {
        check.about("18: 'How many ACTIVE NEEDS don't HOLD', 16");
        AdvisoryMatch x = installedAt(1, 1);
        for (int n = 1; n <= 16; n++) {
            x.need(n % 2, 20, n / 2 % 2, n % 3 == 0 ? 21 : 0, n % 3 == 0 ? 99 : 20);
            check.same("broken() of " + n, n, x.broken());
        }
        x.install(0, NONE);
        check.same("broken() of package 1 alone", 8, x.broken());
        x.install(1, NONE);
        check.same("broken() with none installed", 0, x.broken());
    }

    private static void noPlan() {
        check.about("19: 'NONE if there is none'");
        AdvisoryMatch x = installedAt(2);
        advisoryOn(x, 0, 0, NONE);
        check.same("plan() where each version is hit", NONE, x.plan());
        AdvisoryMatch y = installedAt(2, NONE);
        y.need(0, 0, 1, 0, 100);
        check.same("plan() where a need can't hold", NONE, y.plan());
        AdvisoryMatch z = installedAt(2, 2, 2, 2, 2, 2);
        advisoryOn(z, 5, 0, NONE);
        check.same("plan() where the last package alone has none", NONE, z.plan());
        check.same("planned(0)", NONE, z.planned(0));
    }

    private static void planThatChangesNone() {
        check.about("19: 'how many PACKAGES have another VERSION', 0");
        check.same("plan() of an empty object", 0, new AdvisoryMatch().plan());
        check.same("plan() with none installed", 0, withPacks(6, 5).plan());
        check.same("plan() without versions", 0, withPacks(6, 0).plan());
        duePlan(installedAt(4, 0, 3, 1, 2, 4), 0, 4, 0, 3, 1, 2, 4);
        AdvisoryMatch x = installedAt(0);
        advisoryOn(x, 0, 11, NONE);
        duePlan(x, 0, 0);
    }

    private static void planThatChangesAll() {
        check.about("19: 'how many PACKAGES have another VERSION', 6");
        AdvisoryMatch x = installedAt(0, 0, 0, 4, 4, 4);
        for (int p = 0; p < 6; p++) {
            advisoryOn(x, p, p < 3 ? 0 : 11, p < 3 ? 50 : NONE);
        }
        duePlan(x, 6, 4, 4, 4, 0, 0, 0);
        // Sixteen needs that hold then, with nothing to spare.
        for (int n = 0; n < 16; n++) {
            boolean high = n % 2 == 0;
            x.need(n % 6, n % 6 < 3 ? 50 : 10, high ? 0 : 5, high ? 50 : 10, high ? 51 : 11);
        }
        duePlan(x, 6, 4, 4, 4, 0, 0, 0);
    }

    private static void planBeforeStays() {
        check.about("19: 'the one before stays'");
        AdvisoryMatch x = installedAt(0, 0);
        advisoryOn(x, 0, 10, 20);
        duePlan(x, 1, 1, 0);
        advisoryOn(x, 1, 0, NONE);
        duePlan(x, NONE, 1, 0);
        duePlan(x, NONE, 1, 0);
        x.install(1, 4);
        check.same("update()", 2, x.update());
        x.withdraw(1, true);
        duePlan(x, 0, 1, 0);
    }

    private static void plannedOfNone() {
        check.about("20: 'or there is none such'");
        for (int packs : new int[] {0, 1, 6}) {
            AdvisoryMatch x = withPacks(packs, 5);
            for (int p = 0; p < packs; p++) {
                x.install(p, 4);
            }
            check.same("plan()", 0, x.plan());
            for (int none : notBelow(packs)) {
                check.same("planned(" + none + ") of " + packs, NONE, x.planned(none));
            }
            if (packs > 0) {
                check.same("planned of the last", 4, x.planned(packs - 1));
            }
        }
    }

    private static void plannedGivesNone() {
        check.about("20: 'NONE if it gives none'");
        AdvisoryMatch x = installedAt(3, NONE);
        check.same("planned(0) before a plan", NONE, x.planned(0));
        duePlan(x, 0, 3, NONE);
        x.install(1, 2);
        check.same("planned(1), installed since", NONE, x.planned(1));
        x.install(0, NONE);
        check.same("planned(0), not installed any more", 3, x.planned(0));
        check.same("pack(false)", 2, x.pack(false));
        check.same("planned(2), made since", NONE, x.planned(2));
        duePlan(x, 0, NONE, 2, NONE);
        AdvisoryMatch y = installedAt(0);
        y.need(0, 0, 0, 0, 0);
        duePlan(y, NONE, NONE);
    }

    private static void updateWithoutAPlan() {
        check.about("21: 'NONE if there was none'");
        check.same("update() of an empty object", NONE, new AdvisoryMatch().update());
        AdvisoryMatch x = installedAt(0);
        advisoryOn(x, 0, 0, NONE);
        check.same("update()", NONE, x.update());
        check.same("plan()", NONE, x.plan());
        check.same("update() after a plan that was NONE", NONE, x.update());
        x.withdraw(0, true);
        check.same("plan()", 0, x.plan());
        check.same("update()", 0, x.update());
    }

    private static void updateOfNoneAndOfAll() {
        check.about("21: 'how many PACKAGES have another VERSION by this', 0 and 6");
        AdvisoryMatch x = installedAt(0, 1, 2, 3, 4, 0);
        duePlan(x, 0, 0, 1, 2, 3, 4, 0);
        check.same("update()", 0, x.update());
        installAll(x, 4, 0, 1, 2, 3, 4);
        check.same("update()", 6, x.update());
        check.same("update() once more", 0, x.update());
        duePlan(x, 0, 0, 1, 2, 3, 4, 0);
        // An update uses no plan up.
        x.install(5, 1);
        check.same("update() of the same plan", 1, x.update());
    }

    private static void updateLeavesWhatIsNotInstalled() {
        check.about("21: 'A PACKAGE that isn't INSTALLED now is left so'");
        AdvisoryMatch x = installedAt(0, 0);
        advisoryOn(x, 0, 10, 20);
        advisoryOn(x, 1, 10, 20);
        duePlan(x, 2, 1, 1);
        x.install(0, NONE);
        check.same("update()", 1, x.update());
        duePlan(x, 0, NONE, 1);
        AdvisoryMatch y = installedAt(0);
        duePlan(y, 0, 0);
        y.install(0, NONE);
        check.same("update() with none installed", 0, y.update());
        duePlan(y, 0, NONE);
    }

    private static void updateLeavesWhatThePlanGaveNone() {
        check.about("21: 'one that the plan gave none is left, too'");
        AdvisoryMatch x = installedAt(NONE, 0);
        advisoryOn(x, 0, 30, 40);
        advisoryOn(x, 1, 10, 20);
        duePlan(x, 1, NONE, 1);
        x.install(0, 2);
        x.pack(false);
        x.version(2, 7);
        x.install(2, 0);
        check.same("update()", 1, x.update());
        check.same("hits(): package 0 is at its place", 1, x.hits());
        dueHit(x, 0, 0, 0);
        x.withdraw(0, true);
        duePlan(x, 0, 2, 1, 0);
    }
}
