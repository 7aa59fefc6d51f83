/** The boundary cases that promises 1 to 15 name, each with a test that quotes its words. */
public final class StateBoundaryTest extends Scene {
    public static void main(String[] args) {
        promise1();
        promise2();
        promise3();
        promise4();
        promise5();
        promise6();
        promise7();
        promise8();
        promise9();
        promise10();
        promise11();
        promise12();
        promise13();
        promise14();
        promise15();
        check.end("StateBoundaryTest");
    }

    private static void promise1() {
        noPackagesAtFirst();
        noAdvisoriesAtFirst();
        clockIsZeroAtFirst();
        nothingIsCountedAtFirst();
    }

    private static void noPackagesAtFirst() {
        check.about("1: 'No PACKAGES'");
        AdvisoryMatch x = new AdvisoryMatch();
        check.same("version(0, 0)", NONE, x.version(0, 0));
        check.no("install(0, 0)", x.install(0, 0));
        check.no("install(0, NONE)", x.install(0, NONE));
        check.same("need(0, 0, 0, 0, 1)", NONE, x.need(0, 0, 0, 0, 1));
        check.no("call(0, true)", x.call(0, true));
        check.same("advisory(0)", NONE, x.advisory(0));
        check.same("planned(0)", NONE, x.planned(0));
        check.same("the first package", 0, x.pack(false));
    }

    private static void noAdvisoriesAtFirst() {
        check.about("1: 'no ADVISORIES'");
        AdvisoryMatch x = withPacks(1, 1);
        check.no("span(0, 0, 1)", x.span(0, 0, 1));
        check.no("severity(0, ..)", x.severity(0, 0, 0, 0, 0, 0));
        check.no("withdraw(0, true)", x.withdraw(0, true));
        check.same("same(0, 0)", NONE, x.same(0, 0));
        check.same("group(0)", NONE, x.group(0));
        check.same("score(0)", NONE, x.score(0));
        check.no("except(0, 0, 1)", x.except(0, 0, 1));
        check.same("the first advisory", 0, x.advisory(0));
    }

    private static void clockIsZeroAtFirst() {
        check.about("1: 'CLOCK 0'");
        check.same("tick(0)", 0, new AdvisoryMatch().tick(0));
        check.same("tick(1)", 1, new AdvisoryMatch().tick(1));
        AdvisoryMatch x = allHit(1);
        x.except(0, 0, 1);
        dueExcepted(x, 1);
    }

    private static void nothingIsCountedAtFirst() {
        check.about("1: an empty object");
        AdvisoryMatch x = new AdvisoryMatch();
        check.same("hit(0, 0)", NONE, x.hit(0, 0));
        check.same("update()", NONE, x.update());
        check.same("hits()", 0, x.hits());
        check.same("broken()", 0, x.broken());
        check.same("plan()", 0, x.plan());
        check.same("update()", 0, x.update());
    }

    private static void promise2() {
        check.about("2: 'NONE if there are 6'");
        AdvisoryMatch x = new AdvisoryMatch();
        for (int p = 0; p < 6; p++) {
            check.same("pack(false)", p, x.pack(false));
        }
        check.same("a seventh, a root", NONE, x.pack(true));
        check.same("a seventh", NONE, x.pack(false));
        check.same("version(6, 1)", NONE, x.version(6, 1));
        // The refused root made none of the six a root.
        for (int p = 0; p < 6; p++) {
            x.version(p, 1);
            x.install(p, 0);
            advisoryOn(x, p, 0, NONE);
        }
        dueFar(x, NONE, NONE, NONE, NONE, NONE, NONE);
    }

    private static void promise3() {
        versionOfNoPackage();
        sixthVersion();
        versionNotAboveTheLast();
        versionOutsideOfItsSpan();
        refusedVersionTakesNoPlace();
    }

    private static void versionOfNoPackage() {
        check.about("3: 'NONE if there is no such PACKAGE'");
        for (int packs : new int[] {0, 1, 5, 6}) {
            AdvisoryMatch x = withPacks(packs, 0);
            for (int none : notBelow(packs)) {
                check.same("version(" + none + ", 1) of " + packs, NONE, x.version(none, 1));
            }
            if (packs > 0) {
                check.same("version of the last", 0, x.version(packs - 1, 1));
            }
        }
    }

    private static void sixthVersion() {
        check.about("3: 'it has 5'");
        AdvisoryMatch x = withPacks(6, 0);
        for (int p = 0; p < 6; p++) {
            for (int v = 0; v < 5; v++) {
                check.same("version", v, x.version(p, v));
            }
            check.same("a sixth", NONE, x.version(p, 1000000));
            check.same("a sixth, again", NONE, x.version(p, 5));
            check.no("install(" + p + ", 5)", x.install(p, 5));
        }
    }

    private static void versionNotAboveTheLast() {
        check.about("3: 'the VERSION isn't above the last one'");
        AdvisoryMatch x = withPacks(2, 0);
        check.same("version(0, 500)", 0, x.version(0, 500));
        check.same("the same", NONE, x.version(0, 500));
        check.same("one less", NONE, x.version(0, 499));
        check.same("0", NONE, x.version(0, 0));
        check.same("one more", 1, x.version(0, 501));
        check.same("the first one again", NONE, x.version(0, 500));
        check.same("the last one again", NONE, x.version(0, 501));
        check.same("the least of another package", 0, x.version(1, 0));
        check.same("0 again", NONE, x.version(1, 0));
        check.same("1 above 0", 1, x.version(1, 1));
    }

    private static void versionOutsideOfItsSpan() {
        check.about("3: 'not within 0 .. 1000000'");
        AdvisoryMatch x = withPacks(1, 0);
        for (int wrong : new int[] {-1, -2, MIN, MIN + 1, 1000001, 1000002, MAX - 1, MAX}) {
            check.same("version(0, " + wrong + ")", NONE, x.version(0, wrong));
        }
        check.same("version(0, 0)", 0, x.version(0, 0));
        check.same("version(0, 999999)", 1, x.version(0, 999999));
        check.same("version(0, 1000000)", 2, x.version(0, 1000000));
        check.same("version(0, 1000001)", NONE, x.version(0, 1000001));
    }

    private static void refusedVersionTakesNoPlace() {
        check.about("3: a refused one is neither a place nor the last one");
        AdvisoryMatch x = withPacks(1, 0);
        x.version(0, 10);
        x.version(0, 10);
        x.version(0, 1000001);
        check.no("install(0, 1)", x.install(0, 1));
        check.same("version(0, 11)", 1, x.version(0, 11));
        advisoryOn(x, 0, 11, 12);
        dueHitPlaces(x, false, true);
    }

    private static void promise4() {
        installNone();
        installOfNoPackage();
        installAtNoPlace();
    }

    private static void installNone() {
        check.about("4: 'NONE: none is'");
        AdvisoryMatch x = allHit(1);
        check.same("hits()", 1, x.hits());
        check.yes("install(0, NONE)", x.install(0, NONE));
        check.same("hits()", 0, x.hits());
        check.yes("install(0, NONE) once more", x.install(0, NONE));
        check.same("hits()", 0, x.hits());
        check.yes("install(0, NONE) without versions", withPacks(1, 0).install(0, NONE));
    }

    private static void installOfNoPackage() {
        check.about("4: 'false if there are none such', a package");
        for (int packs : new int[] {0, 1, 6}) {
            AdvisoryMatch x = withPacks(packs, 1);
            for (int none : notBelow(packs)) {
                check.no("install(" + none + ", 0) of " + packs, x.install(none, 0));
                check.no("install(" + none + ", NONE) of " + packs, x.install(none, NONE));
            }
        }
    }

    private static void installAtNoPlace() {
        check.about("4: 'false if there are none such', a place");
        for (int versions = 0; versions <= 5; versions++) {
            AdvisoryMatch x = withPacks(1, versions);
            for (int none : notBelow(versions)) {
                check.same("install(0, " + none + ") of " + versions, none == NONE ? 1 : 0,
                        x.install(0, none) ? 1 : 0);
            }
            for (int place = 0; place < versions; place++) {
                check.yes("install(0, " + place + ") of " + versions, x.install(0, place));
            }
        }
        // What was installed before a refused call stays so.
        AdvisoryMatch x = withPacks(1, 2);
        advisoryOn(x, 0, 20, 21);
        x.install(0, 1);
        x.install(0, 2);
        x.install(0, -2);
        check.same("hits()", 1, x.hits());
    }

    private static void promise5() {
        seventeenthNeed();
        needOfNoPackages();
    }

    private static void seventeenthNeed() {
        check.about("5: 'NONE if there are 16'");
        AdvisoryMatch x = withPacks(1, 1);
        x.install(0, 0);
        for (int n = 0; n < 16; n++) {
            check.same("need", n, x.need(0, 0, 0, 0, 11));
        }
        check.same("a 17th", NONE, x.need(0, 0, 0, 0, 0));
        check.same("a 17th, again", NONE, x.need(0, 0, 0, 0, 0));
        check.same("broken(): the refused ones aren't there", 0, x.broken());
        check.no("call(16, true)", x.call(16, true));
    }

    private static void needOfNoPackages() {
        check.about("5: 'or no such PACKAGES'");
        for (int packs : new int[] {0, 1, 2, 6}) {
            AdvisoryMatch x = withPacks(packs, 1);
            for (int none : notBelow(packs)) {
                check.same("of " + none, NONE, x.need(none, 0, 0, 0, 0));
                check.same("for " + none, NONE, x.need(0, 0, none, 0, 0));
                check.same("of and for " + none, NONE, x.need(none, 0, none, 0, 0));
            }
            if (packs > 0) {
                check.same("of the last for itself", 0, x.need(packs - 1, 0, packs - 1, 0, 0));
                check.same("of the first for the last", 1, x.need(0, 0, packs - 1, 0, 0));
            }
        }
    }

    private static void promise6() {
        check.about("6: 'false if there is none such'");
        for (int needs : new int[] {0, 1, 15, 16}) {
            AdvisoryMatch x = withPacks(2, 1);
            for (int n = 0; n < needs; n++) {
                x.need(0, 0, 1, 0, 100);
            }
            for (int none : notBelow(needs)) {
                check.no("call(" + none + ", true) of " + needs, x.call(none, true));
                check.no("call(" + none + ", false) of " + needs, x.call(none, false));
            }
            for (int n = 0; n < needs; n++) {
                check.yes("call(" + n + ", true) of " + needs, x.call(n, true));
            }
        }
        check.about("6: 'is CALLED, or isn't'");
        AdvisoryMatch x = allHit(2);
        // A call that was refused isn't kept for the need that comes to have its number.
        x.call(0, true);
        x.need(0, 0, 1, 0, 100);
        dueReached(x, 1, 0);
        x.call(0, true);
        x.call(0, true);
        dueReached(x, 1, 1);
        x.call(0, false);
        dueReached(x, 1, 0);
    }

    private static void promise7() {
        check.about("7: 'NONE if there are 12'");
        AdvisoryMatch x = withAdvisories(0);
        for (int a = 0; a < 12; a++) {
            check.same("advisory(0)", a, x.advisory(0));
        }
        check.same("a 13th", NONE, x.advisory(0));
        check.same("a 13th, again", NONE, x.advisory(0));
        check.same("group(12)", NONE, x.group(12));
        check.same("group(11)", 11, x.group(11));

        check.about("7: 'or there is no such PACKAGE'");
        for (int packs : new int[] {0, 1, 6}) {
            AdvisoryMatch y = withPacks(packs, 1);
            for (int none : notBelow(packs)) {
                check.same("advisory(" + none + ") of " + packs, NONE, y.advisory(none));
            }
            if (packs > 0) {
                check.same("advisory of the last", 0, y.advisory(packs - 1));
            }
        }
    }

    private static void promise8() {
        spanOfNoAdvisory();
        fourthSpan();
        spanFromBelowZero();
        spanToNotAboveFrom();
        spanWithoutEnd();
        refusedSpanIsNotCounted();
    }

    private static void spanOfNoAdvisory() {
        check.about("8: 'false if there is no such ADVISORY'");
        for (int advisories : new int[] {0, 1, 12}) {
            AdvisoryMatch x = withAdvisories(advisories);
            for (int none : notBelow(advisories)) {
                check.no("span(" + none + ", 0, 1) of " + advisories, x.span(none, 0, 1));
            }
            if (advisories > 0) {
                check.yes("span of the last", x.span(advisories - 1, 0, 1));
            }
        }
    }

    private static void fourthSpan() {
        check.about("8: 'it has 3'");
        AdvisoryMatch x = withAdvisories(12);
        x.install(0, 0);
        for (int a = 0; a < 12; a++) {
            for (int s = 0; s < 3; s++) {
                // The same span may stand there twice.
                check.yes("span", x.span(a, 50, 60));
            }
            check.no("a fourth", x.span(a, 0, NONE));
            check.no("a fourth, again", x.span(a, 0, 11));
        }
        check.same("hits(): the refused ones aren't there", 0, x.hits());
    }

    private static void spanFromBelowZero() {
        check.about("8: 'from is below 0'");
        AdvisoryMatch x = withAdvisories(1);
        for (int from : new int[] {-1, -2, MIN, MIN + 1}) {
            check.no("span(0, " + from + ", 100)", x.span(0, from, 100));
            check.no("span(0, " + from + ", NONE)", x.span(0, from, NONE));
            check.no("span(0, " + from + ", MAX)", x.span(0, from, MAX));
        }
        check.no("span(0, MIN, MIN + 1)", x.span(0, MIN, MIN + 1));
        check.no("span(0, -2, NONE)", x.span(0, -2, NONE));
        check.yes("span(0, 0, 1)", x.span(0, 0, 1));
        check.yes("span(0, 1, 2)", x.span(0, 1, 2));
    }

    private static void spanToNotAboveFrom() {
        check.about("8: 'to isn't above from'");
        AdvisoryMatch x = withAdvisories(4);
        for (int from : new int[] {0, 1, 500, 1000000, 1000001, MAX - 1, MAX}) {
            check.no("span(0, " + from + ", the same)", x.span(0, from, from));
            if (from > 0) {
                check.no("span(0, " + from + ", one less)", x.span(0, from, from - 1));
            }
            check.no("span(0, " + from + ", -2)", x.span(0, from, -2));
            check.no("span(0, " + from + ", MIN)", x.span(0, from, MIN));
        }
        check.yes("span(1, 0, 1)", x.span(1, 0, 1));
        check.yes("span(1, 500, 501)", x.span(1, 500, 501));
        check.yes("span(1, MAX - 1, MAX)", x.span(1, MAX - 1, MAX));
        check.yes("span(2, 0, MAX)", x.span(2, 0, MAX));
        check.yes("span(2, 1000000, 1000001)", x.span(2, 1000000, 1000001));
    }

    private static void spanWithoutEnd() {
        check.about("8: 'to NONE: without end'");
        AdvisoryMatch x = withPacks(1, 0);
        x.version(0, 0);
        x.version(0, 1);
        x.version(0, 999999);
        x.version(0, 1000000);
        x.advisory(0);
        check.yes("span(0, MAX, NONE)", x.span(0, MAX, NONE));
        dueHitPlaces(x, false, false, false, false);
        check.yes("span(0, 1000000, NONE)", x.span(0, 1000000, NONE));
        dueHitPlaces(x, false, false, false, true);
        check.yes("span(0, 1, NONE)", x.span(0, 1, NONE));
        dueHitPlaces(x, false, true, true, true);
        advisoryOn(x, 0, 0, NONE);
        x.same(0, 1);
        dueHitPlaces(x, true, true, true, true);
    }

    private static void refusedSpanIsNotCounted() {
        check.about("8: a refused span isn't one of the 3");
        AdvisoryMatch x = withAdvisories(1);
        x.install(0, 0);
        for (int n = 0; n < 4; n++) {
            check.no("span(0, -1, 20)", x.span(0, -1, 20));
            check.no("span(0, 10, 10)", x.span(0, 10, 10));
        }
        check.same("hits()", 0, x.hits());
        check.yes("span(0, 0, 1)", x.span(0, 0, 1));
        check.yes("span(0, 1, 2)", x.span(0, 1, 2));
        check.same("hits()", 0, x.hits());
        check.yes("span(0, 10, 11)", x.span(0, 10, 11));
        check.same("hits()", 1, x.hits());
    }

    private static void promise9() {
        check.about("9: 'false if there is none such'");
        for (int advisories : new int[] {0, 1, 12}) {
            AdvisoryMatch x = withAdvisories(advisories);
            for (int none : notBelow(advisories)) {
                check.no("severity(" + none + ", ..)", x.severity(none, 0, 0, 0, 0, 26));
            }
            for (int a = 0; a < advisories; a++) {
                check.same("score(" + a + "), left as it was", 0, x.score(a));
                check.yes("severity(" + a + ", ..)", x.severity(a, 0, 0, 0, 0, 26));
            }
        }
        check.about("9: 'or they aren't as told'");
        int[] counts = {4, 2, 3, 2, 27};
        for (int choice = 0; choice < counts.length; choice++) {
            choiceOutsideOfItsSpan(choice, counts[choice]);
        }
        harmsOfThreeParts();
    }

    private static void choiceOutsideOfItsSpan(int choice, int count) {
        AdvisoryMatch x = withAdvisories(1);
        x.severity(0, 1, 1, 1, 1, 13);
        int before = x.score(0);
        for (int wrong : notBelow(count)) {
            int[] c = {0, 0, 0, 0, 26};
            c[choice] = wrong;
            check.no("choice " + choice + " of " + wrong,
                    x.severity(0, c[0], c[1], c[2], c[3], c[4]));
            check.same("score(0), left as it was", before, x.score(0));
        }
        for (int right = 0; right < count; right++) {
            int[] c = {0, 0, 0, 0, 26};
            c[choice] = right;
            check.yes("choice " + choice + " of " + right,
                    x.severity(0, c[0], c[1], c[2], c[3], c[4]));
        }
    }

    private static void harmsOfThreeParts() {
        check.about("9: 'harms: 9 times the first HARM's, 3 times the second's, and the third's'");
        // By how many of the three are 1, and how many are 2.
        int[][] due = {{0, 38, 53, 60}, {16, 44, 56}, {27, 49}, {35}};
        AdvisoryMatch x = withAdvisories(1);
        for (int harms = 0; harms < 27; harms++) {
            int[] count = new int[3];
            count[harms / 9]++;
            count[harms / 3 % 3]++;
            count[harms % 3]++;
            x.severity(0, 3, 1, 2, 1, harms);
            check.same("score by harms " + harms, due[count[1]][count[2]], x.score(0));
        }
    }

    private static void promise10() {
        check.about("10: 'false if there is none such'");
        for (int advisories : new int[] {0, 1, 12}) {
            AdvisoryMatch x = withAdvisories(advisories);
            for (int none : notBelow(advisories)) {
                check.no("withdraw(" + none + ", true) of " + advisories, x.withdraw(none, true));
                check.no("withdraw(" + none + ", false) of " + advisories, x.withdraw(none, false));
            }
            for (int a = 0; a < advisories; a++) {
                check.yes("withdraw(" + a + ", true)", x.withdraw(a, true));
            }
        }
        check.about("10: 'is WITHDRAWN, or isn't any more'");
        AdvisoryMatch x = withPacks(1, 1);
        x.install(0, 0);
        // A refused one isn't kept for the advisory that comes to have its number.
        x.withdraw(0, true);
        advisoryOn(x, 0, 0, NONE);
        check.same("hits()", 1, x.hits());
        check.yes("withdraw(0, true)", x.withdraw(0, true));
        check.yes("withdraw(0, true) once more", x.withdraw(0, true));
        check.same("hits()", 0, x.hits());
        check.yes("withdraw(0, false)", x.withdraw(0, false));
        check.same("hits()", 1, x.hits());
        check.yes("withdraw(0, false) once more", x.withdraw(0, false));
        check.same("hits()", 1, x.hits());
    }

    private static void promise11() {
        sameOfNone();
        sameWithItself();
        sameOfAll();
    }

    private static void sameOfNone() {
        check.about("11: 'NONE if there are none such'");
        for (int advisories : new int[] {0, 1, 2, 12}) {
            AdvisoryMatch x = withAdvisories(advisories);
            for (int none : notBelow(advisories)) {
                check.same("same(0, " + none + ")", NONE, x.same(0, none));
                check.same("same(" + none + ", 0)", NONE, x.same(none, 0));
                check.same("same(" + none + ", " + none + ")", NONE, x.same(none, none));
            }
            for (int a = 0; a < advisories; a++) {
                check.same("group(" + a + "), left as it was", a, x.group(a));
            }
        }
    }

    private static void sameWithItself() {
        check.about("11: with itself, and with one that it is the same as already");
        AdvisoryMatch x = withAdvisories(12);
        check.same("same(0, 0)", 0, x.same(0, 0));
        check.same("same(11, 11)", 11, x.same(11, 11));
        dueGroups(x, 0, 1, 2, 3, 4, 5, 6, 7, 8, 9, 10, 11);
        check.same("same(11, 0)", 0, x.same(11, 0));
        check.same("same(0, 11)", 0, x.same(0, 11));
        check.same("same(11, 11)", 0, x.same(11, 11));
        dueGroups(x, 0, 1, 2, 3, 4, 5, 6, 7, 8, 9, 10, 0);
    }

    private static void sameOfAll() {
        check.about("11: all 12 become one group");
        AdvisoryMatch x = withAdvisories(12);
        for (int a = 11; a > 0; a--) {
            check.same("same(" + a + ", " + (a - 1) + ")", a - 1, x.same(a, a - 1));
        }
        dueGroups(x, 0, 0, 0, 0, 0, 0, 0, 0, 0, 0, 0, 0);
        AdvisoryMatch y = withAdvisories(12);
        for (int a = 0; a < 11; a++) {
            check.same("same(" + a + ", " + (a + 1) + ")", 0, y.same(a, a + 1));
        }
        dueGroups(y, 0, 0, 0, 0, 0, 0, 0, 0, 0, 0, 0, 0);
    }

    private static void promise12() {
        check.about("12: 'NONE if there is none such'");
        for (int advisories : new int[] {0, 1, 12}) {
            AdvisoryMatch x = withAdvisories(advisories);
            for (int none : notBelow(advisories)) {
                check.same("group(" + none + ") of " + advisories, NONE, x.group(none));
            }
            for (int a = 0; a < advisories; a++) {
                check.same("group(" + a + ")", a, x.group(a));
            }
        }
    }

    private static void promise13() {
        check.about("13: 'NONE if there is none such'");
        for (int advisories : new int[] {0, 1, 12}) {
            AdvisoryMatch x = withAdvisories(advisories);
            for (int none : notBelow(advisories)) {
                check.same("score(" + none + ") of " + advisories, NONE, x.score(none));
            }
            for (int a = 0; a < advisories; a++) {
                check.same("score(" + a + ")", 0, x.score(a));
            }
        }
    }

    private static void promise14() {
        exceptOfNone();
        exceptWithAnEndBelowZero();
        exceptInPlaceOfTheOneBefore();
        exceptAtTheLastNumbers();
    }

    private static void exceptOfNone() {
        check.about("14: 'false if there are none such'");
        for (int advisories : new int[] {0, 1, 12}) {
            AdvisoryMatch x = withAdvisories(advisories);
            for (int none : notBelow(advisories)) {
                check.no("except(" + none + ", 0, 5) of " + advisories, x.except(none, 0, 5));
                check.no("except(" + none + ", 1, 5) of " + advisories, x.except(none, 1, 5));
            }
        }
        for (int packs : new int[] {1, 6}) {
            AdvisoryMatch x = allHit(packs);
            for (int none : notBelow(packs)) {
                check.no("except(0, " + none + ", 5) of " + packs, x.except(0, none, 5));
            }
            dueExcepted(x, new int[packs]);
        }
        // A refused one isn't kept for the package or the advisory that comes to have its number.
        AdvisoryMatch x = allHit(1);
        x.except(1, 0, 5);
        x.except(0, 1, 5);
        x.pack(false);
        x.version(1, 1);
        x.install(1, 0);
        advisoryOn(x, 0, 0, NONE);
        advisoryOn(x, 1, 0, NONE);
        x.same(2, 0);
        dueExcepted(x, 0, 0, 0);
    }

    private static void exceptWithAnEndBelowZero() {
        check.about("14: 'or END is below 0'");
        AdvisoryMatch x = allHit(1);
        check.no("except(0, 0, -1) where there is none", x.except(0, 0, -1));
        dueExcepted(x, 0);
        check.yes("except(0, 0, 0)", x.except(0, 0, 0));
        dueExcepted(x, 0);
        check.yes("except(0, 0, 1)", x.except(0, 0, 1));
        for (int end : new int[] {-1, -2, MIN, MIN + 1}) {
            check.no("except(0, 0, " + end + ")", x.except(0, 0, end));
            dueExcepted(x, 1);
        }
        check.yes("except(0, 0, MAX)", x.except(0, 0, MAX));
        dueExcepted(x, 1);
        x.tick(1000000);
        dueExcepted(x, 1);
    }

    private static void exceptInPlaceOfTheOneBefore() {
        check.about("14: 'in place of the one for this GROUP and PACKAGE'");
        AdvisoryMatch x = allHit(2);
        x.except(0, 0, 10);
        x.except(0, 0, 2);
        x.tick(1);
        dueExcepted(x, 1, 0);
        x.tick(1);
        dueExcepted(x, 0, 0);
        x.except(0, 0, 3);
        x.except(0, 1, 3);
        x.except(1, 1, 3);
        dueExcepted(x, 1, 1);
        x.except(0, 0, 0);
        dueExcepted(x, 0, 1);
        // The one of group 0 for package 1 was group 0's alone, until the two are one.
        x.except(1, 1, 0);
        dueExcepted(x, 0, 0);
        x.same(0, 1);
        dueExcepted(x, 0, 1);
        x.except(1, 1, 0);
        dueExcepted(x, 0, 0);
        x.same(0, 1);
        dueExcepted(x, 0, 0);
    }

    private static void exceptAtTheLastNumbers() {
        check.about("14: the last advisory and the last package");
        AdvisoryMatch x = allHit(6);
        for (int a = 6; a < 12; a++) {
            advisoryOn(x, 5, 0, NONE);
        }
        check.yes("except(11, 5, 1)", x.except(11, 5, 1));
        dueExcepted(x, 0, 0, 0, 0, 0, 0, 0, 0, 0, 0, 0, 1);
        check.yes("except(0, 5, 1)", x.except(0, 5, 1));
        check.yes("except(11, 0, 1)", x.except(11, 0, 1));
        dueExcepted(x, 0, 0, 0, 0, 0, 0, 0, 0, 0, 0, 0, 1);
        check.same("same(11, 0)", 0, x.same(11, 0));
        dueExcepted(x, 1, 0, 0, 0, 0, 1, 0, 0, 0, 0, 0, 0);
    }

    private static void promise15() {
        check.about("15: 'n (0 .. 1000000)', 'NONE if it isn't so'");
        AdvisoryMatch x = new AdvisoryMatch();
        check.same("tick(0)", 0, x.tick(0));
        check.same("tick(1)", 1, x.tick(1));
        for (int n : new int[] {-1, -2, MIN, MIN + 1, 1000001, 1000002, MAX - 1, MAX}) {
            check.same("tick(" + n + ")", NONE, x.tick(n));
            check.same("tick(0) after one refused", 1, x.tick(0));
        }
        check.same("tick(999999)", 1000000, x.tick(999999));
        check.same("tick(1000000)", 2000000, x.tick(1000000));

        check.about("15: 'or it would be above 1000000000'");
        AdvisoryMatch y = new AdvisoryMatch();
        // No 512 calls come as far, and what later ones answer is free: here it is held all the same.
        y.tick(999999);
        for (int n = 0; n < 999; n++) {
            y.tick(1000000);
        }
        check.same("tick(0)", 999999999, y.tick(0));
        check.same("tick(2)", NONE, y.tick(2));
        check.same("tick(1000000)", NONE, y.tick(1000000));
        check.same("tick(0) after one refused", 999999999, y.tick(0));
        check.same("tick(1)", 1000000000, y.tick(1));
        check.same("tick(1)", NONE, y.tick(1));
        check.same("tick(0)", 1000000000, y.tick(0));
    }
}
