import java.math.BigDecimal;
import java.math.RoundingMode;

/** Each promise of the document: ordinary inputs, the edges that it names, and wrong inputs. */
public final class PromiseTest extends Scene {
    public static void main(String[] args) {
        newObject();
        pack();
        version();
        install();
        need();
        call();
        advisory();
        span();
        severity();
        withdraw();
        same();
        group();
        score();
        except();
        exceptionsOfJoinedGroups();
        tick();
        hits();
        hitsAreAsTheyWere();
        hit();
        far();
        reached();
        broken();
        plan();
        planKeepsNeeds();
        planByExceptions();
        planOrder();
        planned();
        update();
        check.end("PromiseTest");
    }

    private static void newObject() {
        check.about("promise 1");
        check.same("NONE", -1, NONE);
        AdvisoryMatch x = new AdvisoryMatch();
        check.same("tick(0)", 0, x.tick(0));
        check.same("hits()", 0, x.hits());
        check.same("hit(0, 0)", NONE, x.hit(0, 0));
        check.same("broken()", 0, x.broken());
        check.same("update()", NONE, x.update());
        check.same("planned(0)", NONE, x.planned(0));
        check.same("version(0, 1)", NONE, x.version(0, 1));
        check.no("install(0, NONE)", x.install(0, NONE));
        check.same("advisory(0)", NONE, x.advisory(0));
        check.same("group(0)", NONE, x.group(0));
        check.same("plan()", 0, x.plan());
        check.same("update()", 0, x.update());
        AdvisoryMatch y = new AdvisoryMatch();
        check.same("pack(true)", 0, y.pack(true));
        check.same("version(0, 1) of another object", NONE, x.version(0, 1));
    }

    private static void pack() {
        check.about("promise 2");
        AdvisoryMatch x = new AdvisoryMatch();
        for (int p = 0; p < 6; p++) {
            check.same("pack", p, x.pack(p % 2 == 1));
        }
        check.same("pack(true)", NONE, x.pack(true));
        check.same("pack(false)", NONE, x.pack(false));
        for (int p = 0; p < 6; p++) {
            x.version(p, 1);
            x.install(p, 0);
            advisoryOn(x, p, 0, NONE);
        }
        check.same("hits()", 6, x.hits());
        for (int p = 0; p < 6; p++) {
            dueHit(x, p, p, p, 0, p % 2 == 1 ? 0 : NONE, p % 2, 0);
        }
    }

    private static void version() {
        check.about("promise 3");
        AdvisoryMatch x = withPacks(2, 0);
        for (int pack : new int[] {2, NONE, MIN, MAX, 6}) {
            check.same("version of no package", NONE, x.version(pack, 1));
        }
        check.same("version(0, -1)", NONE, x.version(0, -1));
        check.same("version(0, 1000001)", NONE, x.version(0, 1000001));
        check.same("version(0, MAX)", NONE, x.version(0, MAX));
        check.same("version(0, MIN)", NONE, x.version(0, MIN));
        check.same("version(0, 0)", 0, x.version(0, 0));
        check.same("version(0, 0)", NONE, x.version(0, 0));
        check.same("version(0, 7)", 1, x.version(0, 7));
        check.same("version(0, 7)", NONE, x.version(0, 7));
        check.same("version(0, 6)", NONE, x.version(0, 6));
        check.same("version(0, 8)", 2, x.version(0, 8));
        check.same("version(0, 9)", 3, x.version(0, 9));
        check.same("version(0, 10)", 4, x.version(0, 10));
        check.same("version(0, 11)", NONE, x.version(0, 11));
        check.same("version(1, 1000000)", 0, x.version(1, 1000000));
        check.same("version(1, 1000000)", NONE, x.version(1, 1000000));
        check.same("version(1, 1000001)", NONE, x.version(1, 1000001));
        check.yes("install(0, 4)", x.install(0, 4));
        check.no("install(0, 5)", x.install(0, 5));
    }

    private static void install() {
        check.about("promise 4");
        AdvisoryMatch x = withPacks(2, 3);
        for (int pack : new int[] {2, 6, NONE, MIN, MAX}) {
            check.no("install of no package", x.install(pack, 0));
            check.no("install none of no package", x.install(pack, NONE));
        }
        check.no("install(0, 3)", x.install(0, 3));
        check.no("install(0, -2)", x.install(0, -2));
        check.no("install(0, MIN)", x.install(0, MIN));
        check.no("install(0, MAX)", x.install(0, MAX));
        advisoryOn(x, 0, 20, 30);
        check.same("hits() with none installed", 0, x.hits());
        check.yes("install(0, NONE)", x.install(0, NONE));
        check.yes("install(0, 1)", x.install(0, 1));
        check.same("hits()", 1, x.hits());
        check.no("install(0, 3)", x.install(0, 3));
        check.same("hits() after one refused", 1, x.hits());
        check.yes("install(0, 2)", x.install(0, 2));
        check.same("hits()", 0, x.hits());
        check.yes("install(0, 1)", x.install(0, 1));
        check.yes("install(0, NONE)", x.install(0, NONE));
        check.same("hits()", 0, x.hits());
        AdvisoryMatch y = withPacks(1, 0);
        check.no("install(0, 0) without versions", y.install(0, 0));
        check.yes("install(0, NONE) without versions", y.install(0, NONE));
    }

    private static void need() {
        check.about("promise 5");
        AdvisoryMatch x = withPacks(2, 3);
        for (int pack : new int[] {2, 6, NONE, MIN, MAX}) {
            check.same("need of no package", NONE, x.need(pack, 0, 0, 0, 100));
            check.same("need for no package", NONE, x.need(0, 0, pack, 0, 100));
        }
        check.same("need(0, 0, 0, 0, 100)", 0, x.need(0, 0, 0, 0, 100));
        check.same("need(0, MIN, 1, MIN, MAX)", 1, x.need(0, MIN, 1, MIN, MAX));
        check.same("need(0, MAX, 1, MAX, MIN)", 2, x.need(0, MAX, 1, MAX, MIN));
        for (int n = 3; n < 16; n++) {
            check.same("need", n, x.need(1, 5, 0, 7, 6));
        }
        check.same("a 17th need", NONE, x.need(0, 0, 1, 0, 100));
        check.yes("call(15, true)", x.call(15, true));
        check.no("call(16, true)", x.call(16, true));
        check.same("broken() with none installed", 0, x.broken());
    }

    private static void call() {
        check.about("promise 6");
        AdvisoryMatch x = withPacks(2, 1);
        installAll(x, 0, 0);
        x.need(0, 0, 1, 0, 100);
        advisoryOn(x, 1, 0, NONE);
        for (int need : new int[] {1, 16, NONE, MIN, MAX}) {
            check.no("call of no need", x.call(need, true));
            check.no("call of no need", x.call(need, false));
        }
        x.hits();
        check.same("hit(0, 4) at first", 0, x.hit(0, 4));
        check.yes("call(0, true)", x.call(0, true));
        x.hits();
        check.same("hit(0, 4) when called", 1, x.hit(0, 4));
        check.yes("call(0, true)", x.call(0, true));
        x.hits();
        check.same("hit(0, 4) when called again", 1, x.hit(0, 4));
        check.yes("call(0, false)", x.call(0, false));
        x.hits();
        check.same("hit(0, 4) when not called any more", 0, x.hit(0, 4));
    }

    private static void advisory() {
        check.about("promise 7");
        AdvisoryMatch x = withPacks(2, 1);
        for (int pack : new int[] {2, 6, NONE, MIN, MAX}) {
            check.same("advisory of no package", NONE, x.advisory(pack));
        }
        for (int a = 0; a < 12; a++) {
            check.same("advisory", a, x.advisory(a % 2));
        }
        check.same("a 13th advisory", NONE, x.advisory(0));
        check.no("span(12, 0, 1)", x.span(12, 0, 1));
        installAll(x, 0, 0);
        check.same("hits() without spans", 0, x.hits());
        for (int a = 0; a < 12; a++) {
            x.span(a, 0, NONE);
        }
        check.same("hits()", 12, x.hits());
        for (int i = 0; i < 12; i++) {
            dueHit(x, i, i / 6, i % 6 * 2 + i / 6);
        }
        check.same("hit(12, 0)", NONE, x.hit(12, 0));
    }

    private static void span() {
        check.about("promise 8");
        AdvisoryMatch x = withPacks(1, 5);
        x.advisory(0);
        for (int advisory : new int[] {1, 12, NONE, MIN, MAX}) {
            check.no("span of no advisory", x.span(advisory, 0, 1));
        }
        check.no("span(0, -1, 5)", x.span(0, -1, 5));
        check.no("span(0, -1, NONE)", x.span(0, -1, NONE));
        check.no("span(0, MIN, MAX)", x.span(0, MIN, MAX));
        check.no("span(0, 5, 5)", x.span(0, 5, 5));
        check.no("span(0, 5, 4)", x.span(0, 5, 4));
        check.no("span(0, 0, -2)", x.span(0, 0, -2));
        check.no("span(0, 0, 0)", x.span(0, 0, 0));
        check.yes("span(0, 20, 30)", x.span(0, 20, 30));
        dueHitPlaces(x, false, true, false, false, false);
        check.yes("span(0, 0, 10)", x.span(0, 0, 10));
        dueHitPlaces(x, false, true, false, false, false);
        check.yes("span(0, 40, NONE)", x.span(0, 40, NONE));
        dueHitPlaces(x, false, true, false, true, true);
        check.no("a fourth span", x.span(0, 0, 100));
        dueHitPlaces(x, false, true, false, true, true);

        AdvisoryMatch y = withPacks(1, 5);
        y.advisory(0);
        check.yes("span(0, 11, 21)", y.span(0, 11, 21));
        dueHitPlaces(y, false, true, false, false, false);
        check.yes("span(0, 31, 39)", y.span(0, 31, 39));
        dueHitPlaces(y, false, true, false, false, false);
        check.yes("span(0, 50, MAX)", y.span(0, 50, MAX));
        dueHitPlaces(y, false, true, false, false, true);

        AdvisoryMatch z = new AdvisoryMatch();
        z.pack(true);
        z.version(0, 0);
        z.version(0, 1000000);
        z.advisory(0);
        z.advisory(0);
        check.yes("span(0, 0, 1)", z.span(0, 0, 1));
        dueHitPlaces(z, true, false);
        check.yes("span(1, MAX, NONE)", z.span(1, MAX, NONE));
        dueHitPlaces(z, true, false);
        check.yes("span(1, 1000000, NONE)", z.span(1, 1000000, NONE));
        dueHitPlaces(z, true, true);
    }

    private static void severity() {
        check.about("promise 9");
        AdvisoryMatch x = withPacks(1, 1);
        x.advisory(0);
        for (int advisory : new int[] {1, 12, NONE, MIN, MAX}) {
            check.no("severity of no advisory", x.severity(advisory, 0, 0, 0, 0, 0));
        }
        check.yes("the greatest choices", x.severity(0, 3, 1, 2, 1, 26));
        int before = x.score(0);
        int[][] wrong = {
            {4, 0, 0, 0, 0}, {NONE, 0, 0, 0, 0}, {0, 2, 0, 0, 0}, {0, NONE, 0, 0, 0},
            {0, 0, 3, 0, 0}, {0, 0, NONE, 0, 0}, {0, 0, 0, 2, 0}, {0, 0, 0, NONE, 0},
            {0, 0, 0, 0, 27}, {0, 0, 0, 0, NONE}, {MIN, 0, 0, 0, 1}, {MAX, 0, 0, 0, 1},
            {0, MIN, 0, 0, 1}, {0, MAX, 0, 0, 1}, {0, 0, MIN, 0, 1}, {0, 0, MAX, 0, 1},
            {0, 0, 0, MIN, 1}, {0, 0, 0, MAX, 1}, {0, 0, 0, 0, MIN}, {0, 0, 0, 0, MAX},
        };
        for (int[] w : wrong) {
            check.no("wrong choices", x.severity(0, w[0], w[1], w[2], w[3], w[4]));
            check.same("score(0) after wrong choices", before, x.score(0));
        }
        check.yes("the first choices", x.severity(0, 0, 0, 0, 0, 0));
        check.same("score(0)", 0, x.score(0));
    }

    private static void withdraw() {
        check.about("promise 10");
        AdvisoryMatch x = withPacks(1, 2);
        installAll(x, 0);
        advisoryOn(x, 0, 0, 20);
        for (int advisory : new int[] {1, 12, NONE, MIN, MAX}) {
            check.no("withdraw of none", x.withdraw(advisory, true));
            check.no("withdraw of none", x.withdraw(advisory, false));
        }
        check.yes("withdraw(0, false)", x.withdraw(0, false));
        check.same("hits()", 1, x.hits());
        duePlan(x, 1, 1);
        check.yes("withdraw(0, true)", x.withdraw(0, true));
        check.same("hits()", 0, x.hits());
        duePlan(x, 0, 0);
        check.yes("withdraw(0, true)", x.withdraw(0, true));
        check.same("hits()", 0, x.hits());
        check.yes("withdraw(0, false)", x.withdraw(0, false));
        check.same("hits()", 1, x.hits());
        duePlan(x, 1, 1);
        // A withdrawn one stays in its group and gives it its number, but neither hit nor score.
        advisoryOn(x, 0, 0, 20);
        x.severity(0, 0, 0, 0, 0, 26);
        x.severity(1, 3, 1, 2, 1, 1);
        x.same(0, 1);
        x.withdraw(0, true);
        check.same("hits()", 1, x.hits());
        dueHit(x, 0, 0, 0, x.score(1));
        check.same("score of a withdrawn one", 98, x.score(0));
    }

    private static void same() {
        check.about("promise 11");
        AdvisoryMatch x = withPacks(1, 1);
        for (int a = 0; a < 8; a++) {
            x.advisory(0);
        }
        for (int none : new int[] {8, 12, NONE, MIN, MAX}) {
            check.same("same(0, none)", NONE, x.same(0, none));
            check.same("same(none, 0)", NONE, x.same(none, 0));
            check.same("same(none, none)", NONE, x.same(none, none));
        }
        check.same("same(3, 3)", 3, x.same(3, 3));
        check.same("same(5, 4)", 4, x.same(5, 4));
        check.same("same(6, 7)", 6, x.same(6, 7));
        check.same("same(7, 5)", 4, x.same(7, 5));
        check.same("same(5, 7)", 4, x.same(5, 7));
        dueGroups(x, 0, 1, 2, 3, 4, 4, 4, 4);
        check.same("same(6, 2)", 2, x.same(6, 2));
        dueGroups(x, 0, 1, 2, 3, 2, 2, 2, 2);
        check.same("same(0, 1)", 0, x.same(0, 1));
        check.same("same(1, 4)", 0, x.same(1, 4));
        dueGroups(x, 0, 0, 0, 3, 0, 0, 0, 0);
    }

    private static void group() {
        check.about("promise 12");
        AdvisoryMatch x = withPacks(2, 1);
        x.advisory(0);
        x.advisory(1);
        for (int none : new int[] {2, 12, NONE, MIN, MAX}) {
            check.same("group of none", NONE, x.group(none));
        }
        dueGroups(x, 0, 1);
        x.same(1, 0);
        dueGroups(x, 0, 0);
        x.withdraw(0, true);
        dueGroups(x, 0, 0);
        x.advisory(0);
        dueGroups(x, 0, 0, 2);
    }

    private static void score() {
        check.about("promise 13");
        AdvisoryMatch x = withPacks(1, 1);
        x.advisory(0);
        x.advisory(0);
        for (int none : new int[] {2, 12, NONE, MIN, MAX}) {
            check.same("score of none", NONE, x.score(none));
        }
        check.same("score(0) at first", 0, x.score(0));
        for (int reach = 0; reach < 4; reach++) {
            for (int ease = 0; ease < 2; ease++) {
                dueScores(reach, ease);
            }
        }
        x.severity(0, 0, 0, 0, 0, 26);
        check.same("score(1) beside another", 0, x.score(1));
        check.same("score(0)", 98, x.score(0));
    }

    private static void dueScores(int reach, int ease) {
        AdvisoryMatch x = withPacks(1, 1);
        x.advisory(0);
        for (int rights = 0; rights < 3; rights++) {
            for (int help = 0; help < 2; help++) {
                for (int harms = 0; harms < 27; harms++) {
                    x.severity(0, reach, ease, rights, help, harms);
                    check.same("score of " + reach + ease + rights + help + " " + harms,
                            exactScore(reach, ease, rights, help, harms), x.score(0));
                }
            }
        }
    }

    private static int exactScore(int reach, int ease, int rights, int help, int harms) {
        String[] harm = {"0", "0.22", "0.56"};
        BigDecimal harmless = BigDecimal.ONE;
        for (int choice : new int[] {harms / 9, harms / 3 % 3, harms % 3}) {
            harmless = harmless.multiply(BigDecimal.ONE.subtract(new BigDecimal(harm[choice])));
        }
        BigDecimal impact = new BigDecimal("6.42").multiply(BigDecimal.ONE.subtract(harmless));
        if (impact.signum() == 0) {
            return 0;
        }
        BigDecimal use = new BigDecimal("8.22")
                .multiply(new BigDecimal(new String[] {"0.85", "0.62", "0.55", "0.2"}[reach]))
                .multiply(new BigDecimal(new String[] {"0.77", "0.44"}[ease]))
                .multiply(new BigDecimal(new String[] {"0.85", "0.62", "0.27"}[rights]))
                .multiply(new BigDecimal(new String[] {"0.85", "0.62"}[help]));
        BigDecimal most = impact.add(use).min(BigDecimal.TEN);
        return most.setScale(1, RoundingMode.CEILING).movePointRight(1).intValueExact();
    }

    private static void except() {
        check.about("promise 14");
        AdvisoryMatch x = withPacks(2, 1);
        installAll(x, 0, 0);
        advisoryOn(x, 0, 0, NONE);
        advisoryOn(x, 1, 0, NONE);
        for (int none : new int[] {2, 12, NONE, MIN, MAX}) {
            check.no("except of no advisory", x.except(none, 0, 5));
            check.no("except of no package", x.except(0, none, 5));
        }
        check.no("except(0, 0, -1)", x.except(0, 0, -1));
        check.no("except(0, 0, MIN)", x.except(0, 0, MIN));
        dueExcepted(x, 0, 0);
        check.yes("except(0, 1, 5), of another package", x.except(0, 1, 5));
        dueExcepted(x, 0, 0);
        check.yes("except(0, 0, 5)", x.except(0, 0, 5));
        dueExcepted(x, 1, 0);
        check.yes("except(0, 0, 0)", x.except(0, 0, 0));
        dueExcepted(x, 0, 0);
        check.yes("except(0, 0, MAX)", x.except(0, 0, MAX));
        check.no("except(0, 0, -1)", x.except(0, 0, -1));
        dueExcepted(x, 1, 0);
        check.yes("except(0, 0, 3), an earlier end", x.except(0, 0, 3));
        x.tick(2);
        dueExcepted(x, 1, 0);
        x.tick(1);
        dueExcepted(x, 0, 0);
        check.yes("except(0, 0, 3), ended already", x.except(0, 0, 3));
        dueExcepted(x, 0, 0);
        check.yes("except(0, 0, 4)", x.except(0, 0, 4));
        dueExcepted(x, 1, 0);
    }

    private static void exceptionsOfJoinedGroups() {
        check.about("promises 11 and 14");
        AdvisoryMatch x = withPacks(3, 1);
        installAll(x, 0, 0, 0);
        for (int p = 0; p < 3; p++) {
            advisoryOn(x, p, 0, NONE);
        }
        x.except(2, 0, 5);
        x.except(0, 1, 9);
        x.except(2, 1, 4);
        x.except(2, 2, 7);
        x.except(0, 2, 3);
        dueExcepted(x, 0, 0, 1);
        check.same("same(2, 0)", 0, x.same(2, 0));
        dueExcepted(x, 1, 0, 1);
        check.same("same(0, 1)", 0, x.same(0, 1));
        dueExcepted(x, 1, 1, 1);
        x.tick(4);
        dueExcepted(x, 1, 1, 1);
        x.tick(1);
        dueExcepted(x, 0, 1, 1);
        x.tick(2);
        dueExcepted(x, 0, 1, 0);
        x.tick(1);
        dueExcepted(x, 0, 1, 0);
        x.tick(1);
        dueExcepted(x, 0, 0, 0);
        // It is for the whole group, by whichever advisory it is told, and the same stays so.
        x.except(2, 0, 20);
        dueExcepted(x, 1, 0, 0);
        x.except(1, 0, 10);
        check.same("same(1, 2)", 0, x.same(1, 2));
        dueExcepted(x, 1, 0, 0);
        x.tick(1);
        dueExcepted(x, 0, 0, 0);
        // One that comes into the group later has the group's exception, too.
        x.except(0, 2, 50);
        check.same("advisory(2)", 3, x.advisory(2));
        x.span(3, 0, NONE);
        dueExcepted(x, 0, 0, 1, 0);
        x.same(3, 1);
        dueExcepted(x, 0, 0, 1);
    }

    private static void tick() {
        check.about("promise 15");
        AdvisoryMatch x = new AdvisoryMatch();
        check.same("tick(-1)", NONE, x.tick(-1));
        check.same("tick(1000001)", NONE, x.tick(1000001));
        check.same("tick(MIN)", NONE, x.tick(MIN));
        check.same("tick(MAX)", NONE, x.tick(MAX));
        check.same("tick(0)", 0, x.tick(0));
        check.same("tick(7)", 7, x.tick(7));
        check.same("tick(1000000)", 1000007, x.tick(1000000));
        check.same("tick(-1)", NONE, x.tick(-1));
        check.same("tick(0)", 1000007, x.tick(0));
        AdvisoryMatch y = new AdvisoryMatch();
        // The document frees what comes after 512 calls; this holds the clock's limit nonetheless.
        for (int n = 1; n <= 1000; n++) {
            check.same("tick(1000000)", n * 1000000, y.tick(1000000));
        }
        check.same("tick(1)", NONE, y.tick(1));
        check.same("tick(0)", 1000000000, y.tick(0));
    }

    private static void hits() {
        check.about("promise 16");
        AdvisoryMatch x = withPacks(3, 2);
        installAll(x, 1, NONE, 0);
        int onTwo = advisoryOn(x, 2, 0, NONE);
        int onZero = advisoryOn(x, 0, 20, NONE);
        int onOne = advisoryOn(x, 1, 0, NONE);
        int elsewhere = advisoryOn(x, 0, 0, 20);
        int alsoOnZero = advisoryOn(x, 0, 0, 21);
        check.same("hits()", 3, x.hits());
        dueHit(x, 0, 0, onZero);
        dueHit(x, 1, 0, alsoOnZero);
        dueHit(x, 2, 2, onTwo);
        dueHit(x, 3, NONE, NONE);
        x.severity(onZero, 3, 1, 2, 1, 1);
        x.severity(alsoOnZero, 2, 1, 1, 0, 4);
        x.severity(elsewhere, 0, 0, 0, 0, 26);
        x.severity(onTwo, 0, 0, 0, 0, 13);
        check.same("same", 1, x.same(elsewhere, onZero));
        check.same("same", 1, x.same(elsewhere, alsoOnZero));
        // The score there leaves out what hits another version or another package.
        check.same("hits()", 2, x.hits());
        dueHit(x, 0, 0, onZero, Math.max(x.score(onZero), x.score(alsoOnZero)));
        dueHit(x, 1, 2, onTwo, x.score(onTwo));
        check.same("same", 0, x.same(onTwo, onZero));
        check.same("hits() of one group at two packages", 2, x.hits());
        dueHit(x, 0, 0, 0, Math.max(x.score(onZero), x.score(alsoOnZero)));
        dueHit(x, 1, 2, 0, x.score(onTwo));
        x.install(1, 0);
        check.same("hits()", 3, x.hits());
        dueHit(x, 1, 1, onOne);
        x.install(0, 0);
        check.same("hits()", 3, x.hits());
        dueHit(x, 0, 0, 0, 98);
    }

    private static void hitsAreAsTheyWere() {
        check.about("promises 16 and 17");
        AdvisoryMatch x = withPacks(2, 2);
        installAll(x, 0, 0);
        x.need(0, 0, 1, 0, 100);
        x.call(0, true);
        advisoryOn(x, 1, 0, NONE);
        advisoryOn(x, 1, 0, NONE);
        x.severity(1, 0, 0, 0, 0, 26);
        x.except(1, 1, 4);
        check.same("hits()", 2, x.hits());
        x.call(0, false);
        x.tick(4);
        x.severity(1, 0, 0, 0, 0, 0);
        x.same(0, 1);
        x.install(1, NONE);
        x.install(0, 1);
        x.plan();
        x.update();
        dueHit(x, 0, 1, 0, 0, 1, 1, 0);
        dueHit(x, 1, 1, 1, 98, 1, 1, 1);
        check.same("hits()", 0, x.hits());
        dueHit(x, 0, NONE, NONE, NONE, NONE, NONE, NONE);
    }

    private static void hit() {
        check.about("promise 17");
        AdvisoryMatch x = withPacks(1, 1);
        installAll(x, 0);
        advisoryOn(x, 0, 0, NONE);
        check.same("hit(0, 0) before hits", NONE, x.hit(0, 0));
        check.same("hits()", 1, x.hits());
        dueHit(x, 0, 0, 0, 0, 0, 1, 0);
        for (int i : new int[] {1, 12, NONE, MIN, MAX}) {
            check.same("hit of none such", NONE, x.hit(i, 0));
        }
        for (int what : new int[] {6, NONE, MIN, MAX}) {
            check.same("hit for another what", NONE, x.hit(0, what));
        }
    }

    private static void far() {
        check.about("promise 17, far");
        AdvisoryMatch x = withPacks(6, 3);
        installAll(x, 0, 0, 0, 0, 0, 0);
        for (int p = 0; p < 6; p++) {
            advisoryOn(x, p, 0, NONE);
        }
        // The needs stand against the order of the way, so that one pass over them isn't enough.
        for (int p = 4; p >= 0; p--) {
            x.need(p, 10, p + 1, 10, 20);
        }
        dueFar(x, 0, 1, 2, 3, 4, 5);
        check.same("need", 5, x.need(1, 0, 4, 10, 11));
        dueFar(x, 0, 1, 2, 3, 2, 3);
        check.same("need", 6, x.need(5, 0, 0, 0, 100));
        check.same("need", 7, x.need(3, 0, 3, 0, 100));
        dueFar(x, 0, 1, 2, 3, 2, 3);
        // The need of 1 for 2 doesn't hold any more; 3 loses its way, 2 has lost it.
        x.install(2, 1);
        dueFar(x, 0, 1, NONE, NONE, 2, 3);
        x.install(2, 0);
        x.install(1, NONE);
        x.hits();
        dueHit(x, 0, 0, 0, 0, 0);
        for (int i = 1; i < 5; i++) {
            check.same("hit(" + i + ", 3)", NONE, x.hit(i, 3));
        }
        x.install(1, 0);
        x.install(0, NONE);
        x.hits();
        for (int i = 0; i < 5; i++) {
            check.same("hit(" + i + ", 3) without a root", NONE, x.hit(i, 3));
        }
        farBySince();
        farFromTheNearestRoot();
    }

    private static void farBySince() {
        AdvisoryMatch x = withPacks(2, 3);
        advisoryOn(x, 0, 0, NONE);
        advisoryOn(x, 1, 0, NONE);
        x.need(0, 20, 1, 20, 30);
        int[][] due = {{NONE, NONE, NONE}, {NONE, 1, NONE}, {NONE, 1, NONE}};
        for (int owner = 0; owner < 3; owner++) {
            for (int other = 0; other < 3; other++) {
                installAll(x, owner, other);
                dueFar(x, 0, due[owner][other]);
            }
        }
    }

    private static void farFromTheNearestRoot() {
        AdvisoryMatch x = new AdvisoryMatch();
        for (int p = 0; p < 5; p++) {
            x.pack(p == 0 || p == 3);
            x.version(p, 1);
            x.install(p, 0);
            advisoryOn(x, p, 0, NONE);
        }
        x.need(0, 0, 1, 0, 2);
        x.need(1, 0, 2, 0, 2);
        x.need(2, 0, 3, 0, 2);
        x.need(3, 0, 2, 0, 2);
        dueFar(x, 0, 1, 1, 0, NONE);
    }

    private static void reached() {
        check.about("promise 17, reached");
        AdvisoryMatch x = withPacks(4, 2);
        installAll(x, 0, 0, 0, 0);
        for (int p = 0; p < 4; p++) {
            advisoryOn(x, p, 0, NONE);
        }
        int threeByTwo = x.need(2, 0, 3, 0, 100);
        int threeByZero = x.need(0, 0, 3, 0, 100);
        int twoByOne = x.need(1, 0, 2, 0, 20);
        int oneByZero = x.need(0, 0, 1, 0, 100);
        dueReached(x, 1, 0, 0, 0);
        x.call(threeByTwo, true);
        x.call(twoByOne, true);
        dueReached(x, 1, 0, 0, 0);
        x.call(oneByZero, true);
        dueReached(x, 1, 1, 1, 1);
        check.same("far by a way that isn't called", 1, x.hit(3, 3));
        x.install(2, 1);
        dueReached(x, 1, 1, 0, 0);
        x.call(threeByZero, true);
        dueReached(x, 1, 1, 0, 1);
        x.install(0, NONE);
        dueReached(x, 0, 0, 0);
    }

    private static void broken() {
        check.about("promise 18");
        AdvisoryMatch x = withPacks(2, 4);
        x.need(0, 20, 1, 20, 40);
        int[][] due = {{0, 0, 0, 0}, {1, 0, 0, 1}, {1, 0, 0, 1}, {1, 0, 0, 1}};
        for (int owner = 0; owner < 4; owner++) {
            for (int other = 0; other < 4; other++) {
                installAll(x, owner, other);
                check.same("broken() at " + owner + other, due[owner][other], x.broken());
            }
            installAll(x, owner, NONE);
            check.same("broken() without the other one", owner > 0 ? 1 : 0, x.broken());
        }
        installAll(x, NONE, 0);
        check.same("broken() without the package", 0, x.broken());
        installAll(x, 1, 0);
        x.need(0, 0, 1, 0, 0);
        x.need(0, 0, 0, 0, 20);
        x.need(1, 0, 1, 0, 20);
        check.same("broken()", 3, x.broken());
        AdvisoryMatch y = withPacks(2, 1);
        y.need(0, MIN, 1, MIN, MAX);
        check.same("broken() with none installed", 0, y.broken());
        installAll(y, 0, NONE);
        check.same("broken() where any version would do", 1, y.broken());
        installAll(y, 0, 0);
        check.same("broken()", 0, y.broken());
        y.need(0, 0, 1, 0, NONE);
        check.same("broken() by a high of -1, which is no open end", 1, y.broken());
    }

    private static void plan() {
        check.about("promise 19");
        AdvisoryMatch x = withPacks(2, 3);
        duePlan(x, 0, NONE, NONE);
        installAll(x, 1, NONE);
        duePlan(x, 0, 1, NONE);
        advisoryOn(x, 0, 20, 30);
        advisoryOn(x, 1, 0, NONE);
        // One place down and one up are as near: the lesser place comes first.
        duePlan(x, 1, 0, NONE);
        advisoryOn(x, 0, 10, 11);
        duePlan(x, 1, 2, NONE);
        advisoryOn(x, 0, 30, NONE);
        duePlan(x, NONE, 2, NONE);
        check.same("hits() after plans alone", 1, x.hits());
        x.install(0, NONE);
        duePlan(x, 0, NONE, NONE);
        installAll(x, NONE, 0);
        duePlan(x, NONE, NONE, NONE);
    }

    private static void planKeepsNeeds() {
        check.about("promise 19, needs");
        AdvisoryMatch x = withPacks(3, 3);
        installAll(x, 0, 0, NONE);
        advisoryOn(x, 1, 0, 20);
        x.need(0, 0, 1, 0, 20);
        duePlan(x, NONE);
        AdvisoryMatch y = withPacks(3, 3);
        installAll(y, 0, 0, 0);
        advisoryOn(y, 0, 10, 20);
        y.need(0, 20, 1, 20, 30);
        y.need(1, 20, 2, 30, 40);
        duePlan(y, 3, 1, 1, 2);
        // A need that isn't active then needn't hold: the old one keeps nothing.
        y.need(1, 0, 2, 0, 100);
        duePlan(y, 3, 1, 1, 2);
        y.install(2, NONE);
        duePlan(y, NONE, 1, 1, 2);
        y.install(1, NONE);
        duePlan(y, NONE, 1, 1, 2);
        AdvisoryMatch z = withPacks(2, 3);
        installAll(z, 2, 2);
        // A need of a package for itself, one that is broken now, and one by a later package.
        z.need(0, 0, 0, 0, 20);
        duePlan(z, 1, 0, 2);
        z.need(1, 20, 0, 20, 30);
        duePlan(z, 2, 0, 0);
        z.need(1, 0, 1, 11, 100);
        duePlan(z, NONE, 0, 0);
    }

    private static void planByExceptions() {
        check.about("promise 19, exceptions");
        AdvisoryMatch x = withPacks(2, 2);
        installAll(x, 0, 0);
        advisoryOn(x, 0, 0, 20);
        advisoryOn(x, 0, 0, 20);
        advisoryOn(x, 1, 0, 20);
        duePlan(x, 2, 1, 1);
        x.except(0, 0, 5);
        duePlan(x, 2, 1, 1);
        x.except(1, 0, 7);
        duePlan(x, 1, 0, 1);
        x.tick(4);
        duePlan(x, 1, 0, 1);
        x.tick(1);
        duePlan(x, 2, 1, 1);
        x.same(0, 1);
        duePlan(x, 1, 0, 1);
        x.same(2, 1);
        // The exception of the group is for package 0, not for 1.
        duePlan(x, 1, 0, 1);
        x.except(0, 1, 6);
        duePlan(x, 0, 0, 0);
        x.tick(1);
        duePlan(x, 1, 0, 1);
        x.tick(1);
        duePlan(x, 2, 1, 1);
    }

    private static void planOrder() {
        check.about("promise 19, order");
        fewestBeforeLeastSum();
        leastSumBeforeFirstPlaces();
        firstPlacesByTheFirstPackage();
    }

    private static void fewestBeforeLeastSum() {
        AdvisoryMatch x = withPacks(2, 5);
        installAll(x, 0, 1);
        // Either 0 goes up by four alone, or 0 goes up and 1 down by one each.
        advisoryOn(x, 0, 10, 20);
        x.need(1, 20, 0, 50, 60);
        duePlan(x, 1, 4, 1);
        advisoryOn(x, 0, 50, NONE);
        duePlan(x, 2, 1, 0);
        // The same with the packages the other way round.
        AdvisoryMatch y = withPacks(2, 5);
        installAll(y, 1, 0);
        advisoryOn(y, 1, 10, 20);
        y.need(0, 20, 1, 50, 60);
        duePlan(y, 1, 1, 4);
        // One by four places is before five by one each, which come first by their places.
        AdvisoryMatch z = withPacks(6, 5);
        installAll(z, 1, 1, 1, 1, 1, 0);
        advisoryOn(z, 5, 10, 20);
        for (int p = 0; p < 5; p++) {
            z.need(p, 20, 5, 50, 60);
        }
        duePlan(z, 1, 1, 1, 1, 1, 1, 4);
        advisoryOn(z, 5, 50, 60);
        duePlan(z, 6, 0, 0, 0, 0, 0, 1);
    }

    private static void leastSumBeforeFirstPlaces() {
        AdvisoryMatch x = withPacks(1, 5);
        installAll(x, 3);
        advisoryOn(x, 0, 20, 50);
        duePlan(x, 1, 4);
        AdvisoryMatch y = withPacks(2, 5);
        installAll(y, 2, 2);
        // Either 0 goes down by two, or 1 goes up by one.
        y.need(0, 20, 1, 40, 60);
        advisoryOn(y, 1, 10, 20);
        duePlan(y, 1, 2, 3);
    }

    private static void firstPlacesByTheFirstPackage() {
        AdvisoryMatch x = withPacks(2, 3);
        installAll(x, 1, 1);
        // One of the two must go by one place: 0 down is before 1 down, and that before 0 up.
        x.need(0, 20, 1, 0, 20);
        x.need(0, 30, 1, 20, 30);
        duePlan(x, 1, 0, 1);
        advisoryOn(x, 0, 10, 20);
        duePlan(x, 1, 1, 0);
        AdvisoryMatch y = withPacks(6, 3);
        installAll(y, 1, 1, 1, 1, 1, 1);
        for (int p = 0; p < 6; p++) {
            advisoryOn(y, p, 20, 30);
        }
        duePlan(y, 6, 0, 0, 0, 0, 0, 0);
        y.need(5, 0, 0, 30, 40);
        duePlan(y, 6, 2, 0, 0, 0, 0, 0);
    }

    private static void planned() {
        check.about("promise 20");
        AdvisoryMatch x = withPacks(2, 2);
        installAll(x, 0, NONE);
        check.same("planned(0) before a plan", NONE, x.planned(0));
        duePlan(x, 0, 0, NONE);
        for (int pack : new int[] {2, 6, NONE, MIN, MAX}) {
            check.same("planned of no package", NONE, x.planned(pack));
        }
        x.pack(false);
        x.version(2, 5);
        x.install(2, 0);
        x.install(1, 1);
        x.install(0, 1);
        check.same("planned(0)", 0, x.planned(0));
        check.same("planned(1), installed since", NONE, x.planned(1));
        check.same("planned(2), made since", NONE, x.planned(2));
        duePlan(x, 0, 1, 1, 0);
        x.need(0, 0, 1, 50, 60);
        duePlan(x, NONE, 1, 1, 0);
        x.install(0, NONE);
        duePlan(x, 0, NONE, 1, 0);
    }

    private static void update() {
        check.about("promise 21");
        AdvisoryMatch x = withPacks(4, 3);
        check.same("update() without a plan", NONE, x.update());
        installAll(x, 0, 0, 0, NONE);
        for (int p = 0; p < 4; p++) {
            advisoryOn(x, p, 10, 20);
        }
        check.same("update() without a plan", NONE, x.update());
        duePlan(x, 3, 1, 1, 1, NONE);
        check.same("hits()", 3, x.hits());
        x.install(1, NONE);
        x.install(2, 1);
        x.install(3, 0);
        check.same("update()", 1, x.update());
        check.same("hits()", 1, x.hits());
        dueHit(x, 0, 3, 3);
        check.same("update() again", 0, x.update());
        duePlan(x, 1, 1, NONE, 1, 1);
        installAll(x, 2, 2, 2, 2);
        check.same("update()", 3, x.update());
        duePlan(x, 0, 1, 2, 1, 1);
        // A plan that was NONE changes nothing of this.
        installAll(x, 0, 0, 0, 0);
        x.need(0, 0, 0, 0, 0);
        check.same("plan()", NONE, x.plan());
        check.same("update()", 4, x.update());
        x.install(0, NONE);
        duePlan(x, 0, NONE, 2, 1, 1);
        AdvisoryMatch y = withPacks(1, 1);
        installAll(y, 0);
        y.need(0, 0, 0, 0, 0);
        check.same("plan()", NONE, y.plan());
        check.same("update() after a plan that was NONE", NONE, y.update());
    }
}
