/** The boundary cases that the document's terms name, each with a test that quotes its words. */
public final class TermsBoundaryTest extends Scene {
    public static void main(String[] args) {
        allIsFull();
        lastOf512Calls();
        versionsAtTheirEnds();
        oneVersionIsInstalled();
        rootMayBeNoRoot();
        sinceOrMore();
        lowOrMoreAndBelowHigh();
        needOfItself();
        needWithEndsBeyondAllVersions();
        fromOrMoreAndBelowTo();
        spansSideBySide();
        sameAsAThird();
        oneAloneIsAGroup();
        toldByItsLeastNumber();
        hitByThatPackageAlone();
        withdrawnHitsNot();
        greatestScoreThere();
        choicesAtFirst();
        noImpactNoScore();
        roundedUp();
        leastAndGreatestScore();
        exceptionUntilItsEnd();
        laterEndStays();
        hitsByNumbers();
        farOfARoot();
        farByNone();
        farByFewest();
        reachedByCalledAlone();
        planKeepsActiveNeedsAlone();
        planByExceptionsThatHoldNow();
        fewestPackages();
        leastSum();
        placesThatComeFirst();
        check.end("TermsBoundaryTest");
    }

    private static void allIsFull() {
        check.about("'at most 6 .. 5 .. 16 .. 12 .. 3', all of them at once");
        AdvisoryMatch x = withPacks(6, 5);
        for (int n = 0; n < 16; n++) {
            check.same("need", n, x.need(n % 6, 50, (n + 1) % 6, 50, 51));
        }
        for (int a = 0; a < 12; a++) {
            check.same("advisory", a, x.advisory(a % 6));
            for (int s = 0; s < 3; s++) {
                int hit = 20 + 10 * (s + a / 6);
                check.yes("span", x.span(a, hit, hit + 1));
            }
        }
        check.same("pack", NONE, x.pack(true));
        check.same("version", NONE, x.version(5, 60));
        check.same("need", NONE, x.need(5, 0, 5, 0, 0));
        check.same("advisory", NONE, x.advisory(5));
        check.no("span", x.span(11, 0, NONE));
        // The first six hit 20 .. 40, the others 30 .. 50: the version 10 alone is clear.
        installAll(x, 0, 1, 2, 3, 4, 4);
        check.same("hits()", 7, x.hits());
        check.same("broken()", 2, x.broken());
        duePlan(x, 5, 0, 0, 0, 0, 0, 0);
        check.same("update()", 5, x.update());
        check.same("hits()", 0, x.hits());
        check.same("broken()", 0, x.broken());
    }

    private static void lastOf512Calls() {
        check.about("'An object is used for at most 512 calls'");
        AdvisoryMatch x = new AdvisoryMatch();
        for (int n = 1; n <= 511; n++) {
            check.same("tick", n * 1000000, x.tick(1000000));
        }
        check.same("the 512th call", 511000001, x.tick(1));
        AdvisoryMatch y = allHit(1);
        for (int n = 0; n < 508; n++) {
            check.same("hits()", 1, y.hits());
        }
    }

    private static void versionsAtTheirEnds() {
        check.about("VERSIONS 'from 0 to 1000000, rising (places 0, 1, ..)'");
        AdvisoryMatch x = withPacks(1, 0);
        int[] versions = {0, 1, 2, 999999, 1000000};
        for (int place = 0; place < 5; place++) {
            check.same("version(0, " + versions[place] + ")", place, x.version(0, versions[place]));
        }
        x.advisory(0);
        x.span(0, 0, 1);
        x.span(0, 2, 3);
        x.span(0, 1000000, 1000001);
        dueHitPlaces(x, true, false, true, false, true);
    }

    private static void oneVersionIsInstalled() {
        check.about("'one of them may be INSTALLED'");
        AdvisoryMatch x = withPacks(1, 5);
        for (int v = 1; v <= 5; v++) {
            advisoryOn(x, 0, 10 * v, 10 * v + 1);
        }
        check.same("hits() at first", 0, x.hits());
        for (int place : new int[] {4, 0, 3, 1, 2}) {
            x.install(0, place);
            check.same("hits()", 1, x.hits());
            dueHit(x, 0, 0, place);
        }
    }

    private static void rootMayBeNoRoot() {
        check.about("'a PACKAGE may be a ROOT', all of them or none");
        for (boolean root : new boolean[] {true, false}) {
            AdvisoryMatch x = new AdvisoryMatch();
            for (int p = 0; p < 6; p++) {
                x.pack(root);
                x.version(p, 0);
                x.install(p, 0);
                advisoryOn(x, p, 0, 1);
                x.call(x.need(p, 0, (p + 1) % 6, 0, 1), true);
            }
            int far = root ? 0 : NONE;
            dueFar(x, far, far, far, far, far, far);
            int reached = root ? 1 : 0;
            dueReached(x, reached, reached, reached, reached, reached, reached);
        }
    }

    /** The number of broken needs where package 0, at a version, needs 1, at another. */
    private static int brokenAt(int version, int since, int other, int low, int high) {
        AdvisoryMatch x = new AdvisoryMatch();
        for (int p = 0; p < 2; p++) {
            x.pack(false);
            x.version(p, p == 0 ? version : other);
            x.install(p, 0);
        }
        check.same("need", 0, x.need(0, since, 1, low, high));
        return x.broken();
    }

    private static void sinceOrMore() {
        check.about("'if its VERSION is SINCE or more'");
        for (int since : new int[] {0, 1, 500, 999999, 1000000}) {
            check.same("at " + since, 1, brokenAt(since, since, 5, 0, 5));
            if (since > 0) {
                check.same("one below " + since, 0, brokenAt(since - 1, since, 5, 0, 5));
            }
            if (since < 1000000) {
                check.same("one above " + since, 1, brokenAt(since + 1, since, 5, 0, 5));
            }
        }
    }

    private static void lowOrMoreAndBelowHigh() {
        check.about("'with a VERSION of LOW or more and below HIGH'");
        check.same("at low", 0, brokenAt(0, 0, 7, 7, 9));
        check.same("one below low", 1, brokenAt(0, 0, 6, 7, 9));
        check.same("one below high", 0, brokenAt(0, 0, 8, 7, 9));
        check.same("at high", 1, brokenAt(0, 0, 9, 7, 9));
        check.same("0 of 0 .. 1", 0, brokenAt(0, 0, 0, 0, 1));
        check.same("1000000 at low", 0, brokenAt(0, 0, 1000000, 1000000, 1000001));
        check.same("1000000 at high", 1, brokenAt(0, 0, 1000000, 0, 1000000));
        check.same("high as low", 1, brokenAt(0, 0, 7, 7, 7));
        check.same("high below low, at low", 1, brokenAt(0, 0, 7, 7, 6));
        check.same("high below low, at high", 1, brokenAt(0, 0, 6, 7, 6));
        check.same("0 of none", 1, brokenAt(0, 0, 0, 0, 0));
    }

    private static void needOfItself() {
        check.about("'NEEDS another one (or itself)'");
        AdvisoryMatch x = withPacks(1, 3);
        x.need(0, 20, 0, 20, 30);
        int[] due = {0, 0, 1};
        for (int place = 0; place < 3; place++) {
            x.install(0, place);
            check.same("broken() at place " + place, due[place], x.broken());
        }
        duePlan(x, 1, 1);
        x.install(0, NONE);
        check.same("broken() when it isn't installed", 0, x.broken());
    }

    private static void needWithEndsBeyondAllVersions() {
        check.about("a NEED's ends may lie beyond all VERSIONS");
        check.same("since MIN", 1, brokenAt(0, MIN, 0, 0, 0));
        check.same("since -1", 1, brokenAt(0, -1, 0, 0, 0));
        check.same("since 1000001", 0, brokenAt(1000000, 1000001, 0, 0, 0));
        check.same("since MAX", 0, brokenAt(1000000, MAX, 0, 0, 0));
        check.same("low MIN", 0, brokenAt(0, 0, 0, MIN, 1));
        check.same("low MAX", 1, brokenAt(0, 0, 1000000, MAX, MAX));
        check.same("high MAX", 0, brokenAt(0, 0, 1000000, 0, MAX));
        check.same("high MIN", 1, brokenAt(0, 0, 0, MIN, MIN));
        check.same("high NONE", 1, brokenAt(0, 0, 0, 0, NONE));
        // One that isn't installed has no version, not one below all others.
        AdvisoryMatch x = withPacks(2, 1);
        x.need(0, MIN, 1, MIN, MAX);
        check.same("broken() with none installed", 0, x.broken());
        x.install(0, 0);
        check.same("broken() without the other one", 1, x.broken());
        duePlan(x, NONE, NONE, NONE);
    }

    private static void fromOrMoreAndBelowTo() {
        check.about("SPANS: 'FROM or more, and below TO (or without end)'");
        AdvisoryMatch x = withPacks(1, 0);
        for (int version : new int[] {6, 7, 8, 9, 10}) {
            x.version(0, version);
        }
        x.advisory(0);
        x.span(0, 7, 9);
        dueHitPlaces(x, false, true, true, false, false);
        AdvisoryMatch y = withPacks(1, 0);
        for (int version : new int[] {6, 7, 8, 9, 10}) {
            y.version(0, version);
        }
        y.advisory(0);
        y.span(0, 9, NONE);
        dueHitPlaces(y, false, false, false, true, true);
        y.span(0, 7, 8);
        dueHitPlaces(y, false, true, false, true, true);
    }

    private static void spansSideBySide() {
        check.about("'SPANS, at most 3', each by itself");
        AdvisoryMatch x = withPacks(1, 5);
        x.advisory(0);
        x.span(0, 50, NONE);
        x.span(0, 10, 20);
        x.span(0, 20, 30);
        dueHitPlaces(x, true, true, false, false, true);
        // A version that two spans have is one hit.
        AdvisoryMatch y = withPacks(1, 1);
        y.install(0, 0);
        y.advisory(0);
        y.span(0, 0, 11);
        y.span(0, 10, 11);
        y.span(0, 10, NONE);
        check.same("hits()", 1, y.hits());
    }

    private static void sameAsAThird() {
        check.about("'so are such as are THE SAME as a third one'");
        AdvisoryMatch x = withAdvisories(5);
        x.same(1, 3);
        x.same(3, 4);
        dueGroups(x, 0, 1, 2, 1, 1);
        x.same(2, 4);
        dueGroups(x, 0, 1, 1, 1, 1);
        x.withdraw(3, true);
        dueGroups(x, 0, 1, 1, 1, 1);
    }

    private static void oneAloneIsAGroup() {
        check.about("'one alone is one, too'");
        AdvisoryMatch x = allHit(1);
        dueGroups(x, 0);
        check.same("hits()", 1, x.hits());
        dueHit(x, 0, 0, 0);
    }

    private static void toldByItsLeastNumber() {
        check.about("'told by its least number'");
        AdvisoryMatch x = withAdvisories(12);
        check.same("same(11, 10)", 10, x.same(11, 10));
        check.same("same(9, 11)", 9, x.same(9, 11));
        check.same("same(10, 0)", 0, x.same(10, 0));
        dueGroups(x, 0, 1, 2, 3, 4, 5, 6, 7, 8, 0, 0, 0);
        // The number stays, though that advisory hits nothing itself.
        x.install(0, 0);
        x.span(11, 0, NONE);
        x.withdraw(0, true);
        check.same("hits()", 1, x.hits());
        dueHit(x, 0, 0, 0);
    }

    private static void hitByThatPackageAlone() {
        check.about("'an ADVISORY of it, of that PACKAGE'");
        AdvisoryMatch x = withPacks(2, 1);
        installAll(x, 0, 0);
        advisoryOn(x, 1, 0, NONE);
        x.advisory(0);
        x.same(0, 1);
        check.same("hits()", 1, x.hits());
        dueHit(x, 0, 1, 0);
        duePlan(x, NONE, NONE);
        x.except(1, 1, 1);
        duePlan(x, 0, 0, 0);
    }

    private static void withdrawnHitsNot() {
        check.about("'and not WITHDRAWN'");
        AdvisoryMatch x = withPacks(1, 1);
        x.install(0, 0);
        advisoryOn(x, 0, 0, NONE);
        advisoryOn(x, 0, 0, NONE);
        x.same(0, 1);
        x.severity(1, 0, 0, 0, 0, 26);
        x.withdraw(1, true);
        check.same("hits()", 1, x.hits());
        dueHit(x, 0, 0, 0, 0);
        x.withdraw(0, true);
        check.same("hits()", 0, x.hits());
        duePlan(x, 0, 0);
        x.withdraw(1, false);
        check.same("hits()", 1, x.hits());
        dueHit(x, 0, 0, 0, 98);
    }

    private static void greatestScoreThere() {
        check.about("'the greatest one of these ADVISORIES (those that have such a SPAN)'");
        AdvisoryMatch x = withPacks(2, 2);
        installAll(x, 0, 0);
        int low = advisoryOn(x, 0, 10, 11);
        int high = advisoryOn(x, 0, 10, 11);
        int nextVersion = advisoryOn(x, 0, 11, NONE);
        int otherPack = advisoryOn(x, 1, 0, NONE);
        x.severity(low, 3, 1, 2, 1, 1);
        x.severity(high, 3, 1, 2, 1, 26);
        x.severity(nextVersion, 0, 0, 0, 0, 26);
        x.severity(otherPack, 0, 0, 0, 0, 13);
        for (int a = 1; a < 4; a++) {
            x.same(a - 1, a);
        }
        check.same("hits()", 2, x.hits());
        dueHit(x, 0, 0, 0, x.score(high));
        dueHit(x, 1, 1, 0, x.score(otherPack));
        x.install(0, 1);
        check.same("hits()", 2, x.hits());
        dueHit(x, 0, 0, 0, 98);
        // A score of 0 is a hit none the less.
        x.severity(nextVersion, 0, 0, 0, 0, 0);
        check.same("hits()", 2, x.hits());
        dueHit(x, 0, 0, 0, 0);
    }

    private static void choicesAtFirst() {
        check.about("'at first all choices are 0'");
        AdvisoryMatch x = withAdvisories(12);
        for (int a = 0; a < 12; a++) {
            check.same("score(" + a + ")", 0, x.score(a));
        }
    }

    /** The score of a new advisory with such choices. */
    private static int scoreOf(int reach, int ease, int rights, int help, int harms) {
        AdvisoryMatch x = withAdvisories(1);
        check.yes("severity", x.severity(0, reach, ease, rights, help, harms));
        return x.score(0);
    }

    private static void noImpactNoScore() {
        check.about("'0 if IMPACT is 0'");
        check.same("the greatest others", 0, scoreOf(0, 0, 0, 0, 0));
        check.same("the least others", 0, scoreOf(3, 1, 2, 1, 0));
        AdvisoryMatch x = withAdvisories(1);
        x.severity(0, 0, 0, 0, 0, 26);
        x.severity(0, 0, 0, 0, 0, 0);
        check.same("score(0), of an impact before", 0, x.score(0));
        check.yes("the least impact", scoreOf(0, 0, 0, 0, 1) > 0);
    }

    private static void roundedUp() {
        check.about("'rounded up to tenths'");
        // No choices give whole tenths; these come nearest to them, from above and from below.
        check.same("55.0032..", 56, scoreOf(2, 0, 2, 0, 14));
        check.same("30.0068..", 31, scoreOf(3, 0, 1, 1, 4));
        check.same("56.9972..", 57, scoreOf(3, 1, 0, 0, 8));
        check.same("52.9944..", 53, scoreOf(0, 0, 0, 0, 3));
    }

    private static void leastAndGreatestScore() {
        check.about("SCORE 'at most 10': its least and its greatest");
        check.same("15.33..", 16, scoreOf(3, 1, 2, 1, 1));
        check.same("97.60..", 98, scoreOf(0, 0, 0, 0, 26));
    }

    private static void exceptionUntilItsEnd() {
        check.about("'it holds while the CLOCK is below that'");
        AdvisoryMatch x = withPacks(1, 2);
        x.install(0, 0);
        advisoryOn(x, 0, 10, 20);
        x.except(0, 0, 0);
        dueExcepted(x, 0);
        duePlan(x, 1, 1);
        x.except(0, 0, 1);
        dueExcepted(x, 1);
        duePlan(x, 0, 0);
        x.except(0, 0, 1000001);
        x.tick(1000000);
        dueExcepted(x, 1);
        duePlan(x, 0, 0);
        x.tick(1);
        dueExcepted(x, 0);
        duePlan(x, 1, 1);
        x.tick(1);
        dueExcepted(x, 0);
    }

    private static void laterEndStays() {
        check.about("'the later END for each PACKAGE stays'");
        for (int order = 0; order < 2; order++) {
            AdvisoryMatch x = withPacks(2, 1);
            installAll(x, 0, 0);
            advisoryOn(x, 0, 0, NONE);
            advisoryOn(x, 1, 0, NONE);
            x.except(order, 0, 3);
            x.except(1 - order, 0, 2);
            x.except(order, 1, 1);
            x.except(1 - order, 1, 2);
            check.same("same", 0, x.same(order, 1 - order));
            dueExcepted(x, 1, 1);
            x.tick(1);
            dueExcepted(x, 1, 1);
            x.tick(1);
            dueExcepted(x, 1, 0);
            x.tick(1);
            dueExcepted(x, 0, 0);
        }
        // One that has ended already is the later one of two still.
        AdvisoryMatch y = allHit(2);
        y.except(0, 1, 1);
        y.tick(1);
        y.same(1, 0);
        dueExcepted(y, 0, 0);
        y.advisory(0);
        y.except(2, 1, 2);
        y.same(2, 1);
        dueExcepted(y, 0, 1);
    }

    private static void hitsByNumbers() {
        check.about("HITS 'by numbers', of packages first and of groups then");
        AdvisoryMatch x = withPacks(3, 1);
        installAll(x, 0, NONE, 0);
        for (int a = 0; a < 6; a++) {
            advisoryOn(x, 2 - a % 3, 0, NONE);
        }
        check.same("hits()", 4, x.hits());
        dueHit(x, 0, 0, 2);
        dueHit(x, 1, 0, 5);
        dueHit(x, 2, 2, 0);
        dueHit(x, 3, 2, 3);
        // By the group's number, not by the advisory's.
        x.same(5, 1);
        check.same("hits()", 4, x.hits());
        dueHit(x, 0, 0, 1);
        dueHit(x, 1, 0, 2);
    }

    private static void farOfARoot() {
        check.about("FAR '0: it is one'");
        AdvisoryMatch x = allHit(2);
        x.need(1, 0, 0, 0, 100);
        x.need(0, 0, 1, 0, 100);
        dueFar(x, 0, 1);
        x.need(0, 0, 0, 0, 100);
        dueFar(x, 0, 1);
    }

    private static void farByNone() {
        check.about("FAR 'NONE: none do'");
        AdvisoryMatch x = allHit(3);
        dueFar(x, 0, NONE, NONE);
        // A ring that no root leads to, a need that isn't active, and one that doesn't hold.
        x.need(1, 0, 2, 0, 100);
        x.need(2, 0, 1, 0, 100);
        x.need(0, 11, 1, 0, 100);
        x.need(0, 0, 1, 0, 10);
        x.need(0, 0, 1, 11, 100);
        dueFar(x, 0, NONE, NONE);
        x.need(0, 10, 1, 10, 11);
        dueFar(x, 0, 1, 2);
        x.install(0, NONE);
        dueFar(x, NONE, NONE);
    }

    private static void farByFewest() {
        check.about("FAR 'how few'");
        AdvisoryMatch x = allHit(4);
        x.need(0, 0, 1, 0, 100);
        x.need(1, 0, 2, 0, 100);
        x.need(2, 0, 3, 0, 100);
        dueFar(x, 0, 1, 2, 3);
        x.need(0, 0, 3, 0, 100);
        dueFar(x, 0, 1, 2, 1);
        x.need(3, 0, 2, 0, 100);
        dueFar(x, 0, 1, 2, 1);
        // Fewer by one alone is fewer.
        x.need(0, 0, 2, 0, 100);
        dueFar(x, 0, 1, 1, 1);
    }

    private static void reachedByCalledAlone() {
        check.about("REACHED 'by CALLED ones alone (a ROOT itself is)'");
        AdvisoryMatch x = allHit(4);
        dueReached(x, 1, 0, 0, 0);
        // The short way isn't called; the long one is, when its last need is.
        x.need(0, 0, 3, 0, 100);
        for (int p = 0; p < 3; p++) {
            x.need(p, 0, p + 1, 0, 100);
        }
        x.call(1, true);
        x.call(3, true);
        dueReached(x, 1, 1, 0, 0);
        x.call(2, true);
        dueReached(x, 1, 1, 1, 1);
        dueFar(x, 0, 1, 2, 1);
        // A called need that doesn't hold, or isn't active, is no way.
        x.version(1, 100);
        x.install(1, 1);
        dueReached(x, 1, 0, 0, 0);
        x.call(x.need(0, 11, 3, 0, 100), true);
        dueReached(x, 1, 0, 0, 0);
        x.call(0, true);
        dueReached(x, 1, 0, 0, 1);
    }

    private static void planKeepsActiveNeedsAlone() {
        check.about("'all NEEDS that would be ACTIVE then HOLD then'");
        AdvisoryMatch x = withPacks(2, 2);
        installAll(x, 1, 0);
        x.need(0, 20, 1, 20, 21);
        check.same("broken()", 1, x.broken());
        // 0 goes down, where the need isn't active: its places come before those of 1 going up.
        duePlan(x, 1, 0, 0);
        advisoryOn(x, 0, 0, 20);
        duePlan(x, 1, 1, 1);
        x.install(1, NONE);
        duePlan(x, NONE, 1, 1);
        x.install(0, NONE);
        duePlan(x, 0, NONE, NONE);
    }

    private static void planByExceptionsThatHoldNow() {
        check.about("'is excepted for it (by an EXCEPTION that holds now)'");
        AdvisoryMatch x = withPacks(2, 1);
        installAll(x, 0, 0);
        advisoryOn(x, 0, 0, NONE);
        advisoryOn(x, 0, 0, NONE);
        duePlan(x, NONE, NONE);
        x.except(0, 0, 2);
        duePlan(x, NONE, NONE);
        x.except(1, 1, 2);
        duePlan(x, NONE, NONE);
        x.except(1, 0, 1);
        duePlan(x, 0, 0, 0);
        x.tick(1);
        duePlan(x, NONE, 0, 0);
        x.same(0, 1);
        duePlan(x, 0, 0, 0);
        x.tick(1);
        duePlan(x, NONE, 0, 0);
    }

    private static void fewestPackages() {
        check.about("'the fewest PACKAGES that have another VERSION than now'");
        // Package 5 alone goes up, though the five others could go down by one each.
        for (int low = 10; low <= 50; low += 10) {
            AdvisoryMatch x = withPacks(6, 5);
            installAll(x, 1, 1, 1, 1, 1, 0);
            for (int p = 0; p < 5; p++) {
                x.need(p, 20, 5, low, 60);
            }
            int place = low / 10 - 1;
            duePlan(x, place == 0 ? 0 : 1, 1, 1, 1, 1, 1, place);
        }
        AdvisoryMatch y = withPacks(3, 5);
        installAll(y, 0, 1, 1);
        y.need(1, 20, 0, 50, 60);
        y.need(2, 20, 0, 50, 60);
        duePlan(y, 1, 4, 1, 1);
        advisoryOn(y, 0, 50, NONE);
        duePlan(y, 2, 0, 0, 0);
    }

    private static void leastSum() {
        check.about("'of these that with the least sum of places moved'");
        AdvisoryMatch x = withPacks(1, 5);
        x.install(0, 3);
        advisoryOn(x, 0, 20, 50);
        duePlan(x, 1, 4);
        x.install(0, 1);
        duePlan(x, 1, 0);
        // 0 by one and 1 by four, or 0 by two and 1 by one: the sum decides, not the first alone.
        AdvisoryMatch y = withPacks(2, 5);
        installAll(y, 4, 4);
        advisoryOn(y, 0, 50, NONE);
        advisoryOn(y, 1, 50, NONE);
        y.need(0, 40, 1, 0, 20);
        duePlan(y, 2, 2, 3);
    }

    private static void placesThatComeFirst() {
        check.about("'by the first PACKAGE that differs, the lesser place'");
        AdvisoryMatch x = withPacks(2, 3);
        installAll(x, 1, 1);
        advisoryOn(x, 0, 20, 21);
        duePlan(x, 1, 0, 1);
        advisoryOn(x, 1, 20, 21);
        duePlan(x, 2, 0, 0);
        // 0 down with 1 up is before 0 up with 1 down.
        x.need(0, 0, 1, 11, 100);
        x.need(0, 30, 1, 0, 20);
        duePlan(x, 2, 0, 2);
        advisoryOn(x, 0, 10, 11);
        duePlan(x, NONE, 0, 2);
    }
}
