import java.math.BigDecimal;
import java.math.RoundingMode;
import java.util.ArrayList;
import java.util.Arrays;
import java.util.Comparator;
import java.util.List;
import java.util.TreeSet;

/** The document's words again, in the plainest form and by other means than the class. */
final class Model {
    private static final int NONE = -1;

    private static final class Pack {
        boolean root;
        final List<Integer> versions = new ArrayList<>();
        int place = NONE;
    }

    private record Need(int owner, int since, int other, int low, int high) {
    }

    private static final class Advisory {
        int pack;
        final List<int[]> spans = new ArrayList<>();
        int[] choices = new int[5];
        boolean withdrawn;
        /** The end of its group's exception for each package, held by every member. */
        final int[] ends = new int[6];
    }

    private final List<Pack> packs = new ArrayList<>();
    private final List<Need> needs = new ArrayList<>();
    private final List<Boolean> called = new ArrayList<>();
    private final List<Advisory> advisories = new ArrayList<>();
    private final List<int[]> pairs = new ArrayList<>();
    private final List<int[]> hits = new ArrayList<>();
    private int[] plan;
    private int clock;

    private static boolean in(int i, List<?> list) {
        return i >= 0 && i < list.size();
    }

    int pack(boolean root) {
        if (packs.size() == 6) {
            return NONE;
        }
        Pack made = new Pack();
        made.root = root;
        packs.add(made);
        return packs.size() - 1;
    }

    int version(int pack, int version) {
        if (!in(pack, packs) || version < 0 || version > 1000000) {
            return NONE;
        }
        List<Integer> versions = packs.get(pack).versions;
        if (versions.size() == 5 || versions.stream().anyMatch(v -> v >= version)) {
            return NONE;
        }
        versions.add(version);
        return versions.size() - 1;
    }

    boolean install(int pack, int place) {
        if (!in(pack, packs) || (place != NONE && !in(place, packs.get(pack).versions))) {
            return false;
        }
        packs.get(pack).place = place;
        return true;
    }

    int need(int pack, int since, int other, int low, int high) {
        if (needs.size() == 16 || !in(pack, packs) || !in(other, packs)) {
            return NONE;
        }
        needs.add(new Need(pack, since, other, low, high));
        called.add(false);
        return needs.size() - 1;
    }

    boolean call(int need, boolean on) {
        if (!in(need, needs)) {
            return false;
        }
        called.set(need, on);
        return true;
    }

    int advisory(int pack) {
        if (advisories.size() == 12 || !in(pack, packs)) {
            return NONE;
        }
        Advisory made = new Advisory();
        made.pack = pack;
        advisories.add(made);
        return advisories.size() - 1;
    }

    boolean span(int advisory, int from, int to) {
        if (!in(advisory, advisories) || advisories.get(advisory).spans.size() == 3 || from < 0) {
            return false;
        }
        long end = to == NONE ? Long.MAX_VALUE : to;
        if (end <= from) {
            return false;
        }
        advisories.get(advisory).spans.add(new int[] {from, to});
        return true;
    }

    boolean severity(int advisory, int... choices) {
        int[] limits = {4, 2, 3, 2, 27};
        boolean right = in(advisory, advisories);
        for (int i = 0; i < 5; i++) {
            right &= choices[i] >= 0 && choices[i] < limits[i];
        }
        if (right) {
            advisories.get(advisory).choices = choices.clone();
        }
        return right;
    }

    boolean withdraw(int advisory, boolean on) {
        if (!in(advisory, advisories)) {
            return false;
        }
        advisories.get(advisory).withdrawn = on;
        return true;
    }

    private TreeSet<Integer> members(int advisory) {
        TreeSet<Integer> members = new TreeSet<>(List.of(advisory));
        boolean grew = true;
        while (grew) {
            grew = false;
            for (int[] pair : pairs) {
                if (members.contains(pair[0]) || members.contains(pair[1])) {
                    grew |= members.add(pair[0]) | members.add(pair[1]);
                }
            }
        }
        return members;
    }

    int same(int a, int b) {
        if (!in(a, advisories) || !in(b, advisories)) {
            return NONE;
        }
        pairs.add(new int[] {a, b});
        TreeSet<Integer> members = members(a);
        for (int p = 0; p < 6; p++) {
            int latest = 0;
            for (int m : members) {
                latest = Math.max(latest, advisories.get(m).ends[p]);
            }
            for (int m : members) {
                advisories.get(m).ends[p] = latest;
            }
        }
        return members.first();
    }

    int group(int advisory) {
        return in(advisory, advisories) ? members(advisory).first() : NONE;
    }

    int score(int advisory) {
        if (!in(advisory, advisories)) {
            return NONE;
        }
        int[] c = advisories.get(advisory).choices;
        double[] harm = {0, 22, 56};
        BigDecimal rest = BigDecimal.ONE;
        for (int h : new int[] {c[4] / 9, c[4] / 3 % 3, c[4] % 3}) {
            rest = rest.multiply(BigDecimal.valueOf(100 - (long) harm[h], 2));
        }
        BigDecimal sum = BigDecimal.valueOf(642, 2).multiply(BigDecimal.ONE.subtract(rest));
        if (sum.signum() == 0) {
            return 0;
        }
        sum = sum.add(BigDecimal.valueOf(822, 2)
                .multiply(BigDecimal.valueOf(new int[] {85, 62, 55, 20}[c[0]], 2))
                .multiply(BigDecimal.valueOf(new int[] {77, 44}[c[1]], 2))
                .multiply(BigDecimal.valueOf(new int[] {85, 62, 27}[c[2]], 2))
                .multiply(BigDecimal.valueOf(new int[] {85, 62}[c[3]], 2)));
        return sum.min(BigDecimal.TEN).movePointRight(1).setScale(0, RoundingMode.UP).intValue();
    }

    boolean except(int advisory, int pack, int end) {
        if (!in(advisory, advisories) || !in(pack, packs) || end < 0) {
            return false;
        }
        for (int m : members(advisory)) {
            advisories.get(m).ends[pack] = end;
        }
        return true;
    }

    int tick(int n) {
        if (n < 0 || n > 1000000 || (long) clock + n > 1000000000L) {
            return NONE;
        }
        clock += n;
        return clock;
    }

    private int[] placesNow() {
        return packs.stream().mapToInt(p -> p.place).toArray();
    }

    private boolean active(Need need, int[] places) {
        return places[need.owner] != NONE
                && packs.get(need.owner).versions.get(places[need.owner]) >= need.since;
    }

    private boolean holds(Need need, int[] places) {
        if (places[need.other] == NONE) {
            return false;
        }
        int version = packs.get(need.other).versions.get(places[need.other]);
        return version >= need.low && version < need.high;
    }

    private List<Integer> striking(int group, int pack, int version) {
        List<Integer> found = new ArrayList<>();
        for (int m : members(group)) {
            Advisory a = advisories.get(m);
            boolean within = a.spans.stream()
                    .anyMatch(s -> version >= s[0] && (s[1] == NONE || version < s[1]));
            if (a.pack == pack && !a.withdrawn && within) {
                found.add(m);
            }
        }
        return found;
    }

    /** Steps outwards from the roots, a ring at a time. */
    private int far(int pack, boolean calledAlone) {
        TreeSet<Integer> ring = new TreeSet<>();
        for (int p = 0; p < packs.size(); p++) {
            if (packs.get(p).root && packs.get(p).place != NONE) {
                ring.add(p);
            }
        }
        for (int far = 0; far < 20; far++) {
            if (ring.contains(pack)) {
                return far;
            }
            TreeSet<Integer> next = new TreeSet<>(ring);
            for (int n = 0; n < needs.size(); n++) {
                Need need = needs.get(n);
                if (ring.contains(need.owner) && active(need, placesNow())
                        && holds(need, placesNow()) && (called.get(n) || !calledAlone)) {
                    next.add(need.other);
                }
            }
            ring = next;
        }
        return NONE;
    }

    int hits() {
        hits.clear();
        for (int p = 0; p < packs.size(); p++) {
            for (int g = 0; g < advisories.size() && packs.get(p).place != NONE; g++) {
                int version = packs.get(p).versions.get(packs.get(p).place);
                List<Integer> striking = striking(g, p, version);
                if (group(g) == g && !striking.isEmpty()) {
                    int score = striking.stream().mapToInt(this::score).max().getAsInt();
                    hits.add(new int[] {p, g, score, far(p, false), far(p, true) == NONE ? 0 : 1,
                        advisories.get(g).ends[p] > clock ? 1 : 0});
                }
            }
        }
        return hits.size();
    }

    int hit(int i, int what) {
        return in(i, hits) && what >= 0 && what < 6 ? hits.get(i)[what] : NONE;
    }

    int broken() {
        int[] now = placesNow();
        return (int) needs.stream().filter(n -> active(n, now) && !holds(n, now)).count();
    }

    private boolean right(int[] places, boolean[][] clear) {
        for (int p = 0; p < places.length; p++) {
            if (places[p] != NONE && !clear[p][places[p]]) {
                return false;
            }
        }
        return needs.stream().noneMatch(n -> active(n, places) && !holds(n, places));
    }

    private boolean[][] clearPlaces() {
        boolean[][] clear = new boolean[6][5];
        for (int p = 0; p < packs.size(); p++) {
            for (int v = 0; v < packs.get(p).versions.size(); v++) {
                clear[p][v] = true;
                for (int g = 0; g < advisories.size(); g++) {
                    clear[p][v] &= striking(g, p, packs.get(p).versions.get(v)).isEmpty()
                            || advisories.get(g).ends[p] > clock;
                }
            }
        }
        return clear;
    }

    private static int changed(int[] a, int[] b) {
        int changed = 0;
        for (int i = 0; i < a.length; i++) {
            changed += a[i] != b[i] ? 1 : 0;
        }
        return changed;
    }

    private static int moved(int[] a, int[] b) {
        int moved = 0;
        for (int i = 0; i < a.length; i++) {
            moved += Math.abs(a[i] - b[i]);
        }
        return moved;
    }

    /** Counts through every row of places there is. */
    int plan() {
        int[] now = placesNow();
        boolean[][] clear = clearPlaces();
        List<int[]> all = new ArrayList<>();
        int rows = 1;
        for (Pack p : packs) {
            rows *= p.place == NONE ? 1 : p.versions.size();
        }
        for (int row = 0; row < rows; row++) {
            int[] places = now.clone();
            int rest = row;
            for (int p = 0; p < places.length; p++) {
                if (places[p] != NONE) {
                    places[p] = rest % packs.get(p).versions.size();
                    rest /= packs.get(p).versions.size();
                }
            }
            if (right(places, clear)) {
                all.add(places);
            }
        }
        if (all.isEmpty()) {
            return NONE;
        }
        Comparator<int[]> order = Comparator.comparingInt(r -> changed(r, now));
        order = order.thenComparingInt(r -> moved(r, now)).thenComparing(Arrays::compare);
        plan = all.stream().min(order).get();
        return changed(plan, now);
    }

    int planned(int pack) {
        return plan != null && pack >= 0 && pack < plan.length ? plan[pack] : NONE;
    }

    int update() {
        if (plan == null) {
            return NONE;
        }
        int changed = 0;
        for (int p = 0; p < plan.length; p++) {
            Pack pack = packs.get(p);
            if (pack.place != NONE && plan[p] != NONE) {
                changed += pack.place != plan[p] ? 1 : 0;
                pack.place = plan[p];
            }
        }
        return changed;
    }
}
