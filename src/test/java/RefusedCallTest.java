import java.util.ArrayList;
import java.util.List;
import java.util.function.Supplier;

/** A call that is refused changes nothing: an object with it answers all as its twin without it. */
public final class RefusedCallTest extends Scene {
    private interface Call {
        /** The answer; false is told as NONE. */
        int to(AdvisoryMatch x);
    }

    private static final int[] WRONG = {NONE, -2, 100, MIN, MAX};

    public static void main(String[] args) {
        List<Call> always = new ArrayList<>();
        for (int wrong : WRONG) {
            addWrongNumbers(always, wrong);
        }
        addWrongValues(always);
        dueLikeTheTwin("a new object", AdvisoryMatch::new, always);
        dueLikeTheTwin("a part filled", RefusedCallTest::partFilled, always);
        dueLikeTheTwin("a full one", RefusedCallTest::full, always);
        dueLikeTheTwin("a new object", AdvisoryMatch::new, beyondTheCounts(0, 0, 0, 0));
        dueLikeTheTwin("a part filled", RefusedCallTest::partFilled, beyondTheCounts(3, 2, 3, 4));
        dueLikeTheTwin("a full one", RefusedCallTest::full, beyondTheCounts(6, 5, 16, 12));
        dueLikeTheTwin("a full one", RefusedCallTest::full, oneMoreThanFull());
        dueLikeTheTwin("one that has no plan", RefusedCallTest::withoutPlan, List.of(x -> x.plan()));
        dueLikeTheTwin("a new object", AdvisoryMatch::new, List.of(x -> x.update()));
        check.end("RefusedCallTest");
    }

    private static int told(boolean done) {
        return done ? 1 : NONE;
    }

    /** Calls with a number that nothing has. */
    private static void addWrongNumbers(List<Call> calls, int wrong) {
        calls.add(x -> x.version(wrong, 1000));
        calls.add(x -> told(x.install(wrong, 0)));
        calls.add(x -> told(x.install(wrong, NONE)));
        calls.add(x -> x.need(wrong, 0, 0, 0, 0));
        calls.add(x -> x.need(0, 0, wrong, 0, 0));
        calls.add(x -> told(x.call(wrong, true)));
        calls.add(x -> x.advisory(wrong));
        calls.add(x -> told(x.span(wrong, 0, NONE)));
        calls.add(x -> told(x.severity(wrong, 0, 0, 0, 0, 26)));
        calls.add(x -> told(x.withdraw(wrong, true)));
        calls.add(x -> told(x.withdraw(wrong, false)));
        calls.add(x -> x.same(wrong, 0));
        calls.add(x -> x.same(0, wrong));
        calls.add(x -> x.group(wrong));
        calls.add(x -> x.score(wrong));
        calls.add(x -> told(x.except(wrong, 0, 50)));
        calls.add(x -> told(x.except(0, wrong, 50)));
        calls.add(x -> x.hit(wrong, 0));
        calls.add(x -> x.hit(0, wrong));
        calls.add(x -> x.planned(wrong));
    }

    /** Calls with values that are too small or too large, whatever there is. */
    private static void addWrongValues(List<Call> calls) {
        for (int wrong : new int[] {-1, 1000001, MIN, MAX}) {
            calls.add(x -> x.version(0, wrong));
            calls.add(x -> x.tick(wrong));
            calls.add(x -> told(x.severity(0, wrong, 0, 0, 0, 26)));
            calls.add(x -> told(x.severity(0, 0, wrong, 0, 0, 26)));
            calls.add(x -> told(x.severity(0, 0, 0, wrong, 0, 26)));
            calls.add(x -> told(x.severity(0, 0, 0, 0, wrong, 26)));
            calls.add(x -> told(x.severity(0, 0, 0, 0, 0, wrong)));
        }
        for (int wrong : new int[] {-1, -2, MIN}) {
            calls.add(x -> told(x.span(0, wrong, NONE)));
            calls.add(x -> told(x.span(0, wrong, 1000)));
            calls.add(x -> told(x.except(0, 0, wrong)));
        }
        calls.add(x -> told(x.span(0, 0, 0)));
        calls.add(x -> told(x.span(0, 10, 9)));
        calls.add(x -> told(x.span(0, MAX, MAX)));
        calls.add(x -> told(x.span(0, 0, -2)));
        calls.add(x -> told(x.install(0, -2)));
        calls.add(x -> x.version(0, 0));
    }

    /** Calls with the first number that nothing has yet. */
    private static List<Call> beyondTheCounts(int packs, int versions, int needs, int advisories) {
        List<Call> calls = new ArrayList<>();
        calls.add(x -> x.version(packs, 1000));
        calls.add(x -> told(x.install(packs, NONE)));
        calls.add(x -> told(x.install(0, versions)));
        calls.add(x -> x.need(packs, 0, 0, 0, 0));
        calls.add(x -> x.need(0, 0, packs, 0, 0));
        calls.add(x -> told(x.call(needs, true)));
        calls.add(x -> x.advisory(packs));
        calls.add(x -> told(x.span(advisories, 0, NONE)));
        calls.add(x -> told(x.severity(advisories, 0, 0, 0, 0, 26)));
        calls.add(x -> told(x.withdraw(advisories, true)));
        calls.add(x -> x.same(0, advisories));
        calls.add(x -> x.same(advisories, 0));
        calls.add(x -> told(x.except(advisories, 0, 50)));
        calls.add(x -> told(x.except(0, packs, 50)));
        return calls;
    }

    private static List<Call> oneMoreThanFull() {
        List<Call> calls = new ArrayList<>();
        calls.add(x -> x.pack(true));
        calls.add(x -> x.pack(false));
        for (int p = 0; p < 6; p++) {
            int pack = p;
            calls.add(x -> x.version(pack, 1000));
            calls.add(x -> x.need(pack, 0, pack, 0, 0));
            calls.add(x -> x.advisory(pack));
        }
        for (int a = 0; a < 12; a++) {
            int advisory = a;
            calls.add(x -> told(x.span(advisory, 0, NONE)));
        }
        return calls;
    }

    /** Three packages of two versions; the latest hits and plan are of another state than now. */
    private static AdvisoryMatch partFilled() {
        AdvisoryMatch x = withPacks(3, 2);
        installAll(x, 0, 0, 0);
        x.need(0, 0, 1, 0, 100);
        x.need(1, 0, 2, 0, 20);
        x.need(2, 20, 0, 0, 5);
        x.call(0, true);
        for (int p = 0; p < 3; p++) {
            advisoryOn(x, p, 20, 30);
            x.severity(p, 1, 0, 1, 0, 5 + p);
        }
        advisoryOn(x, 0, 10, 20);
        x.same(1, 2);
        x.except(3, 0, 20);
        x.except(1, 1, 40);
        x.tick(3);
        x.hits();
        x.plan();
        x.install(1, 1);
        x.install(0, NONE);
        return x;
    }

    private static AdvisoryMatch full() {
        AdvisoryMatch x = withPacks(6, 5);
        installAll(x, 0, 1, 2, 3, 4, 0);
        for (int n = 0; n < 16; n++) {
            x.need(n % 6, 10 * (n % 4), (n + 1) % 6, 0, 100);
            x.call(n, n % 3 == 0);
        }
        for (int a = 0; a < 12; a++) {
            x.advisory(a % 6);
            for (int s = 0; s < 3; s++) {
                x.span(a, 10 * (a % 4 + s), 10 * (a % 4 + s) + 1);
            }
            x.severity(a, a % 4, a % 2, a % 3, a % 2, 2 * a);
            x.except(a, a % 6, 10 + a);
        }
        x.same(3, 9);
        x.withdraw(4, true);
        x.tick(12);
        x.hits();
        x.plan();
        installAll(x, 1, 2, 3, 4, 0, NONE);
        return x;
    }

    private static AdvisoryMatch withoutPlan() {
        AdvisoryMatch x = withPacks(2, 2);
        installAll(x, 0, 0);
        advisoryOn(x, 1, 0, 11);
        x.hits();
        x.plan();
        x.span(0, 20, NONE);
        installAll(x, 1, 1);
        return x;
    }

    private static void dueLikeTheTwin(String about, Supplier<AdvisoryMatch> maker,
            List<Call> refused) {
        List<Integer> due = allAnswers(maker.get());
        for (int c = 0; c < refused.size(); c++) {
            check.about("refused call " + c + " to " + about);
            AdvisoryMatch x = maker.get();
            check.same("its answer", NONE, refused.get(c).to(x));
            List<Integer> got = allAnswers(x);
            check.yes("after it all is as before: " + got + ", due is " + due, got.equals(due));
        }
    }

    /** What an object tells of itself: first by asking alone, then by adding to it. */
    private static List<Integer> allAnswers(AdvisoryMatch x) {
        List<Integer> answers = new ArrayList<>();
        addHits(answers, x);
        addPlanned(answers, x);
        for (int a = 0; a < 12; a++) {
            answers.add(x.group(a));
            answers.add(x.score(a));
        }
        answers.add(x.tick(0));
        answers.add(x.broken());
        answers.add(x.hits());
        addHits(answers, x);
        answers.add(x.plan());
        addPlanned(answers, x);
        answers.add(x.update());
        addCounts(answers, x);
        answers.add(x.hits());
        addHits(answers, x);
        answers.add(x.broken());
        return answers;
    }

    private static void addHits(List<Integer> answers, AdvisoryMatch x) {
        for (int i = 0; i < 12; i++) {
            for (int what = 0; what < 6; what++) {
                answers.add(x.hit(i, what));
            }
        }
    }

    private static void addPlanned(List<Integer> answers, AdvisoryMatch x) {
        for (int p = 0; p < 6; p++) {
            answers.add(x.planned(p));
        }
    }

    /** The numbers of new things tell how many there were; what was kept for them would show. */
    private static void addCounts(List<Integer> answers, AdvisoryMatch x) {
        answers.add(x.pack(false));
        for (int p = 0; p < 6; p++) {
            answers.add(x.version(p, 60));
            answers.add(told(x.install(p, 0)));
        }
        answers.add(x.need(0, 0, 1, 0, 100));
        int advisory = x.advisory(0);
        answers.add(advisory);
        answers.add(x.score(advisory));
        for (int a = 0; a < 12; a++) {
            answers.add(told(x.span(a, 10, 11)));
        }
    }
}
