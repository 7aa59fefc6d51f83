import java.util.Arrays;

/**
 * Advisories against what is installed: which groups of them hit which packages, how gravely and
 * by which ways, and the least updates that clear them all and break no need.
 */
public final class AdvisoryMatch {
    public static final int NONE = -1;

    private static final int MOST_PACKS = 6;
    private static final int MOST_VERSIONS = 5;
    private static final int MOST_NEEDS = 16;
    private static final int MOST_ADVISORIES = 12;
    private static final int MOST_SPANS = 3;
    private static final int TOP_VERSION = 1000000;
    private static final int TOP_TICK = 1000000;
    private static final int TOP_CLOCK = 1000000000;

    private final Packs packs;
    private final Needs needs;
    private final Advisories advisories;
    private final Exceptions exceptions;
    private final Ways ways;
    private final Ways calledWays;
    private final HitList hitList;
    private final Planner planner;
    private int clock;

    public AdvisoryMatch() {
        packs = new Packs();
        needs = new Needs();
        advisories = new Advisories();
        exceptions = new Exceptions();
        ways = new Ways(packs, needs, false);
        calledWays = new Ways(packs, needs, true);
        hitList = new HitList();
        planner = new Planner(packs, needs);
        clock = 0;
    }

    public int pack(boolean root) {
        return packs.add(root);
    }

    public int version(int pack, int version) {
        return packs.addVersion(pack, version);
    }

    public boolean install(int pack, int place) {
        return packs.putPlace(pack, place);
    }

    public int need(int pack, int since, int other, int low, int high) {
        if (!packs.has(pack) || !packs.has(other)) {
            return NONE;
        }
        return needs.add(pack, since, other, low, high);
    }

    public boolean call(int need, boolean on) {
        return needs.setCalled(need, on);
    }

    public int advisory(int pack) {
        return packs.has(pack) ? advisories.add(pack) : NONE;
    }

    public boolean span(int advisory, int from, int to) {
        return advisories.addSpan(advisory, from, to);
    }

    public boolean severity(int advisory, int reach, int ease, int rights, int help, int harms) {
        if (!advisories.has(advisory) || !Severity.areChoices(reach, ease, rights, help, harms)) {
            return false;
        }
        advisories.setScore(advisory, Severity.tenths(reach, ease, rights, help, harms));
        return true;
    }

    public boolean withdraw(int advisory, boolean on) {
        return advisories.setWithdrawn(advisory, on);
    }

    public int same(int a, int b) {
        if (!advisories.has(a) || !advisories.has(b)) {
            return NONE;
        }
        int kept = Math.min(advisories.groupOf(a), advisories.groupOf(b));
        int gone = Math.max(advisories.groupOf(a), advisories.groupOf(b));
        advisories.renameGroup(gone, kept);
        exceptions.join(gone, kept);
        return kept;
    }

    public int group(int advisory) {
        return advisories.groupOf(advisory);
    }

    public int score(int advisory) {
        return advisories.scoreOf(advisory);
    }

    public boolean except(int advisory, int pack, int end) {
        if (!advisories.has(advisory) || !packs.has(pack) || end < 0) {
            return false;
        }
        exceptions.put(advisories.groupOf(advisory), pack, end);
        return true;
    }

    public int tick(int n) {
        if (n < 0 || n > TOP_TICK || n > TOP_CLOCK - clock) {
            return NONE;
        }
        clock += n;
        return clock;
    }

    public int hits() {
        ways.measure();
        calledWays.measure();
        hitList.clear();
        for (int pack = 0; pack < packs.count(); pack++) {
            noteHitsOf(pack);
        }
        return hitList.count();
    }

    public int hit(int i, int what) {
        return hitList.part(i, what);
    }

    public int broken() {
        return needs.countBroken(packs.installedVersions());
    }

    public int plan() {
        for (int pack = 0; pack < packs.count(); pack++) {
            markPlacesOf(pack);
        }
        return planner.search();
    }

    public int planned(int pack) {
        return planner.placeFor(pack);
    }

    public int update() {
        return planner.carryOut();
    }

    private void noteHitsOf(int pack) {
        int version = packs.versionAt(pack, packs.placeOf(pack));
        if (version == NONE) {
            return;
        }
        for (int group = 0; group < advisories.count(); group++) {
            int score = advisories.scoreThere(group, pack, version);
            if (score != NONE) {
                int reached = calledWays.lengthTo(pack) == NONE ? 0 : 1;
                int excepted = exceptions.holds(group, pack, clock) ? 1 : 0;
                hitList.add(pack, group, score, ways.lengthTo(pack), reached, excepted);
            }
        }
    }

    private void markPlacesOf(int pack) {
        for (int place = 0; place < packs.countVersions(pack); place++) {
            planner.markPlace(pack, place, isClear(pack, packs.versionAt(pack, place)));
        }
    }

    private boolean isClear(int pack, int version) {
        for (int advisory = 0; advisory < advisories.count(); advisory++) {
            if (advisories.strikes(advisory, pack, version)
                    && !exceptions.holds(advisories.groupOf(advisory), pack, clock)) {
                return false;
            }
        }
        return true;
    }

    /** Whether a number is one of 0 .. count - 1. */
    private static boolean isBelow(int number, int count) {
        return number >= 0 && number < count;
    }

    /** The packages, their versions, and the place of the one that is installed. */
    private static final class Packs {
        private final boolean[] roots = new boolean[MOST_PACKS];
        private final int[][] versions = new int[MOST_PACKS][MOST_VERSIONS];
        private final int[] versionCounts = new int[MOST_PACKS];
        private final int[] places = new int[MOST_PACKS];
        private final int[] installed = new int[MOST_PACKS];
        private int count;

        Packs() {
            Arrays.fill(places, NONE);
            Arrays.fill(installed, NONE);
            count = 0;
        }

        int count() {
            return count;
        }

        boolean has(int pack) {
            return isBelow(pack, count);
        }

        int add(boolean root) {
            if (count >= MOST_PACKS) {
                return NONE;
            }
            roots[count] = root;
            count++;
            return count - 1;
        }

        int countVersions(int pack) {
            return has(pack) ? versionCounts[pack] : 0;
        }

        int addVersion(int pack, int version) {
            if (!has(pack) || version < 0 || version > TOP_VERSION) {
                return NONE;
            }
            int place = versionCounts[pack];
            if (place >= MOST_VERSIONS || version <= versionAt(pack, place - 1)) {
                return NONE;
            }
            versions[pack][place] = version;
            versionCounts[pack] = place + 1;
            return place;
        }

        /** The version at a place; NONE, which is below every version, if there is none such. */
        int versionAt(int pack, int place) {
            if (!isBelow(pack, count) || !isBelow(place, versionCounts[pack])) {
                return NONE;
            }
            return versions[pack][place];
        }

        boolean putPlace(int pack, int place) {
            if (!has(pack) || (place != NONE && !isBelow(place, versionCounts[pack]))) {
                return false;
            }
            places[pack] = place;
            installed[pack] = versionAt(pack, place);
            return true;
        }

        int placeOf(int pack) {
            return has(pack) ? places[pack] : NONE;
        }

        /** The version that is installed, or NONE, for each number that a package can have. */
        int[] installedVersions() {
            return installed;
        }

        boolean isInstalledRoot(int pack) {
            return placeOf(pack) != NONE && roots[pack];
        }
    }

    /**
     * The needs. Whether they are active and hold is told for any row of versions, one for each
     * package (NONE: none is installed): for those of now, and for those of a plan.
     */
    private static final class Needs {
        private final int[] owners = new int[MOST_NEEDS];
        private final int[] sinces = new int[MOST_NEEDS];
        private final int[] others = new int[MOST_NEEDS];
        private final int[] lows = new int[MOST_NEEDS];
        private final int[] highs = new int[MOST_NEEDS];
        private final boolean[] called = new boolean[MOST_NEEDS];
        private int count;

        Needs() {
            count = 0;
        }

        int count() {
            return count;
        }

        int add(int owner, int since, int other, int low, int high) {
            if (count >= MOST_NEEDS) {
                return NONE;
            }
            owners[count] = owner;
            sinces[count] = since;
            others[count] = other;
            lows[count] = low;
            highs[count] = high;
            count++;
            return count - 1;
        }

        boolean setCalled(int need, boolean on) {
            if (!isBelow(need, count)) {
                return false;
            }
            called[need] = on;
            return true;
        }

        boolean isCalled(int need) {
            return isBelow(need, count) && called[need];
        }

        int ownerOf(int need) {
            return isBelow(need, count) ? owners[need] : NONE;
        }

        int otherOf(int need) {
            return isBelow(need, count) ? others[need] : NONE;
        }

        boolean leads(int need, int[] versions) {
            return isBelow(need, count) && isActive(need, versions) && holds(need, versions);
        }

        int countBroken(int[] versions) {
            int broken = 0;
            for (int need = 0; need < count; need++) {
                if (isBroken(need, versions)) {
                    broken++;
                }
            }
            return broken;
        }

        /** Whether none is broken of those that this package and the ones before it settle. */
        boolean areKept(int lastPack, int[] versions) {
            for (int need = 0; need < count; need++) {
                if (Math.max(owners[need], others[need]) == lastPack && isBroken(need, versions)) {
                    return false;
                }
            }
            return true;
        }

        private boolean isBroken(int need, int[] versions) {
            return isActive(need, versions) && !holds(need, versions);
        }

        private boolean isActive(int need, int[] versions) {
            int version = versions[owners[need]];
            return version != NONE && version >= sinces[need];
        }

        private boolean holds(int need, int[] versions) {
            int version = versions[others[need]];
            return version != NONE && version >= lows[need] && version < highs[need];
        }
    }

    /** The advisories with their spans, scores and groups. */
    private static final class Advisories {
        private final int[] owners = new int[MOST_ADVISORIES];
        private final int[][] froms = new int[MOST_ADVISORIES][MOST_SPANS];
        private final int[][] tos = new int[MOST_ADVISORIES][MOST_SPANS];
        private final int[] spanCounts = new int[MOST_ADVISORIES];
        private final int[] scores = new int[MOST_ADVISORIES];
        private final boolean[] withdrawn = new boolean[MOST_ADVISORIES];
        private final int[] groups = new int[MOST_ADVISORIES];
        private int count;

        Advisories() {
            count = 0;
        }

        int count() {
            return count;
        }

        boolean has(int advisory) {
            return isBelow(advisory, count);
        }

        int add(int pack) {
            if (count >= MOST_ADVISORIES) {
                return NONE;
            }
            owners[count] = pack;
            groups[count] = count;
            count++;
            return count - 1;
        }

        boolean addSpan(int advisory, int from, int to) {
            if (!has(advisory) || from < 0 || (to != NONE && to <= from)) {
                return false;
            }
            int next = spanCounts[advisory];
            if (next >= MOST_SPANS) {
                return false;
            }
            froms[advisory][next] = from;
            tos[advisory][next] = to;
            spanCounts[advisory] = next + 1;
            return true;
        }

        void setScore(int advisory, int score) {
            if (has(advisory)) {
                scores[advisory] = score;
            }
        }

        int scoreOf(int advisory) {
            return has(advisory) ? scores[advisory] : NONE;
        }

        boolean setWithdrawn(int advisory, boolean on) {
            if (!has(advisory)) {
                return false;
            }
            withdrawn[advisory] = on;
            return true;
        }

        int groupOf(int advisory) {
            return has(advisory) ? groups[advisory] : NONE;
        }

        void renameGroup(int old, int name) {
            for (int advisory = 0; advisory < count; advisory++) {
                if (groups[advisory] == old) {
                    groups[advisory] = name;
                }
            }
        }

        /** Whether this one alone makes its group hit that version of the package. */
        boolean strikes(int advisory, int pack, int version) {
            return has(advisory) && owners[advisory] == pack && !withdrawn[advisory]
                    && hasSpanWith(advisory, version);
        }

        /** The score of a group at a version of a package; NONE if it doesn't hit it. */
        int scoreThere(int group, int pack, int version) {
            int greatest = NONE;
            for (int advisory = 0; advisory < count; advisory++) {
                if (groups[advisory] == group && strikes(advisory, pack, version)) {
                    greatest = Math.max(greatest, scores[advisory]);
                }
            }
            return greatest;
        }

        private boolean hasSpanWith(int advisory, int version) {
            for (int span = 0; span < spanCounts[advisory]; span++) {
                int to = tos[advisory][span];
                if (version >= froms[advisory][span] && (to == NONE || version < to)) {
                    return true;
                }
            }
            return false;
        }
    }

    /** The formula of the score, in whole numbers, so that rounding up is exact. */
    private static final class Severity {
        private static final int HARM_CHOICES = 3;
        private static final int ALL_HARMS = HARM_CHOICES * HARM_CHOICES * HARM_CHOICES;
        private static final int TOP_SCORE = 100;

        // All in hundredths.
        private static final int[] REACHES = {85, 62, 55, 20};
        private static final int[] EASES = {77, 44};
        private static final int[] RIGHTS = {85, 62, 27};
        private static final int[] HELPS = {85, 62};
        private static final int[] HARMLESS = {100, 78, 44};
        private static final long IMPACT_FACTOR = 642L;
        private static final long USE_FACTOR = 822L;

        // 1, as three hundredths multiplied give it.
        private static final long WHOLE = 1000000L;
        // An impact has four factors in hundredths, a use five: by this the two can be added.
        private static final long IMPACT_TO_USE = 100L;
        // 0.1, as five hundredths multiplied give it.
        private static final long TENTH = 1000000000L;

        private Severity() {
        }

        static boolean areChoices(int reach, int ease, int rights, int help, int harms) {
            return isBelow(reach, REACHES.length) && isBelow(ease, EASES.length)
                    && isBelow(rights, RIGHTS.length) && isBelow(help, HELPS.length)
                    && isBelow(harms, ALL_HARMS);
        }

        static int tenths(int reach, int ease, int rights, int help, int harms) {
            if (!areChoices(reach, ease, rights, help, harms)) {
                return 0;
            }
            long impact = impactOf(harms);
            if (impact == 0L) {
                return 0;
            }
            long use = USE_FACTOR * REACHES[reach] * EASES[ease] * RIGHTS[rights] * HELPS[help];
            long sum = impact * IMPACT_TO_USE + use;
            return (int) Math.min(TOP_SCORE, (sum + TENTH - 1L) / TENTH);
        }

        private static long impactOf(int harms) {
            int first = harms / (HARM_CHOICES * HARM_CHOICES);
            int second = harms / HARM_CHOICES % HARM_CHOICES;
            int third = harms % HARM_CHOICES;
            long harmless = (long) HARMLESS[first] * HARMLESS[second] * HARMLESS[third];
            return IMPACT_FACTOR * (WHOLE - harmless);
        }
    }

    /** The ends of the exceptions; 0 where there is none, as the clock is never below that. */
    private static final class Exceptions {
        private final int[][] ends = new int[MOST_ADVISORIES][MOST_PACKS];

        void put(int group, int pack, int end) {
            if (areNumbers(group, pack)) {
                ends[group][pack] = end;
            }
        }

        boolean holds(int group, int pack, int clock) {
            return areNumbers(group, pack) && clock < ends[group][pack];
        }

        void join(int gone, int kept) {
            for (int pack = 0; pack < MOST_PACKS; pack++) {
                if (areNumbers(gone, pack) && areNumbers(kept, pack)) {
                    ends[kept][pack] = Math.max(ends[kept][pack], ends[gone][pack]);
                }
            }
        }

        private static boolean areNumbers(int group, int pack) {
            return isBelow(group, MOST_ADVISORIES) && isBelow(pack, MOST_PACKS);
        }
    }

    /** How few needs lead from an installed root to each package. */
    private static final class Ways {
        private final Packs packs;
        private final Needs needs;
        private final boolean calledAlone;
        private final int[] lengths = new int[MOST_PACKS];

        Ways(Packs packs, Needs needs, boolean calledAlone) {
            this.packs = packs;
            this.needs = needs;
            this.calledAlone = calledAlone;
            Arrays.fill(lengths, NONE);
        }

        int lengthTo(int pack) {
            return isBelow(pack, MOST_PACKS) ? lengths[pack] : NONE;
        }

        void measure() {
            for (int pack = 0; pack < MOST_PACKS; pack++) {
                lengths[pack] = packs.isInstalledRoot(pack) ? 0 : NONE;
            }
            // A shortest way comes to no package twice, so it has fewer needs than packages.
            for (int round = 1; round < MOST_PACKS; round++) {
                goOnByEachNeed();
            }
        }

        private void goOnByEachNeed() {
            for (int need = 0; need < needs.count(); need++) {
                if (needs.leads(need, packs.installedVersions())
                        && (!calledAlone || needs.isCalled(need))) {
                    goOn(needs.ownerOf(need), needs.otherOf(need));
                }
            }
        }

        private void goOn(int from, int to) {
            int before = lengthTo(from);
            if (before == NONE || !isBelow(to, MOST_PACKS)) {
                return;
            }
            if (lengths[to] == NONE || lengths[to] > before + 1) {
                lengths[to] = before + 1;
            }
        }
    }

    /** The hits as they were when they were last counted. */
    private static final class HitList {
        private static final int PARTS = 6;
        // Every hit has an advisory of its own: one of that group and that package.
        private final int[][] rows = new int[MOST_ADVISORIES][PARTS];
        private int count;

        HitList() {
            count = 0;
        }

        int count() {
            return count;
        }

        void clear() {
            count = 0;
        }

        void add(int pack, int group, int score, int far, int reached, int excepted) {
            if (count >= MOST_ADVISORIES) {
                return;
            }
            int[] row = rows[count];
            row[0] = pack;
            row[1] = group;
            row[2] = score;
            row[3] = far;
            row[4] = reached;
            row[5] = excepted;
            count++;
        }

        int part(int i, int what) {
            return isBelow(i, count) && isBelow(what, PARTS) ? rows[i][what] : NONE;
        }
    }

    /** The search for the plan, and the latest plan that was found. */
    private static final class Planner {
        // One more package that changes outweighs every sum of places moved.
        private static final int CHANGE_COST = MOST_PACKS * MOST_VERSIONS;
        // Above the cost of every plan.
        private static final int NOT_FOUND = CHANGE_COST * (MOST_PACKS + 1);

        private final Packs packs;
        private final Needs needs;
        private final boolean[] clearPlaces = new boolean[MOST_PACKS * MOST_VERSIONS];
        private final int[] triedPlaces = new int[MOST_PACKS];
        private final int[] triedVersions = new int[MOST_PACKS];
        private final int[] latest = new int[MOST_PACKS];
        private int leastCost;
        private boolean hasPlan;

        Planner(Packs packs, Needs needs) {
            this.packs = packs;
            this.needs = needs;
            Arrays.fill(triedVersions, NONE);
            Arrays.fill(latest, NONE);
            leastCost = NOT_FOUND;
            hasPlan = false;
        }

        /** Tells whether all groups that hit the version at a place are excepted for it. */
        void markPlace(int pack, int place, boolean clear) {
            if (isBelow(pack, MOST_PACKS) && isBelow(place, MOST_VERSIONS)) {
                clearPlaces[pack * MOST_VERSIONS + place] = clear;
            }
        }

        int search() {
            leastCost = NOT_FOUND;
            choose(0, 0);
            if (leastCost == NOT_FOUND) {
                return NONE;
            }
            hasPlan = true;
            return leastCost / CHANGE_COST;
        }

        int placeFor(int pack) {
            return isBelow(pack, MOST_PACKS) ? latest[pack] : NONE;
        }

        int carryOut() {
            if (!hasPlan) {
                return NONE;
            }
            int changed = 0;
            for (int pack = 0; pack < MOST_PACKS; pack++) {
                int now = packs.placeOf(pack);
                if (now != NONE && latest[pack] != NONE && latest[pack] != now) {
                    packs.putPlace(pack, latest[pack]);
                    changed++;
                }
            }
            return changed;
        }

        // Lesser places are tried first and only a lesser cost is kept, so among equal plans the
        // one whose places come first stays.
        private void choose(int pack, int cost) {
            if (cost >= leastCost) {
                return;
            }
            if (!isBelow(pack, MOST_PACKS)) {
                keepTried(cost);
                return;
            }
            int now = packs.placeOf(pack);
            if (now == NONE) {
                settle(pack, NONE, cost);
                return;
            }
            for (int place = 0; place < packs.countVersions(pack); place++) {
                if (isClearPlace(pack, place)) {
                    settle(pack, place, cost + costOf(now, place));
                }
            }
        }

        private void settle(int pack, int place, int cost) {
            if (!isBelow(pack, MOST_PACKS)) {
                return;
            }
            triedPlaces[pack] = place;
            triedVersions[pack] = packs.versionAt(pack, place);
            if (needs.areKept(pack, triedVersions)) {
                choose(pack + 1, cost);
            }
        }

        private void keepTried(int cost) {
            leastCost = cost;
            System.arraycopy(triedPlaces, 0, latest, 0, MOST_PACKS);
        }

        private boolean isClearPlace(int pack, int place) {
            return isBelow(pack, MOST_PACKS) && isBelow(place, MOST_VERSIONS)
                    && clearPlaces[pack * MOST_VERSIONS + place];
        }

        private static int costOf(int now, int place) {
            return now == place ? 0 : CHANGE_COST + Math.abs(place - now);
        }
    }
}
