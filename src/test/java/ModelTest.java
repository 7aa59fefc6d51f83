import java.util.Random;

/** Many runs of calls, always the same ones, whose answers must be those of the model. */
public final class ModelTest {
    private static final int RUNS = 1500;
    private static final int PLAN_RUNS = 300;
    private static final int CALLS = 512;
    private static final int[] ODD = {
        -1, -2, 0, 5, 6, 12, 16, 1000000, 1000001, Integer.MIN_VALUE, Integer.MAX_VALUE
    };

    private final Check check = new Check();
    private final int[] plans = new int[8];
    private Random random;
    private AdvisoryMatch x;
    private Model model;
    private int top;

    public static void main(String[] args) {
        ModelTest test = new ModelTest();
        for (int run = 0; run < RUNS; run++) {
            test.oneRun(run);
        }
        for (int run = 0; run < PLAN_RUNS; run++) {
            test.onePlanRun(run);
        }
        test.dueVariety();
        test.check.end("ModelTest");
    }

    /** Runs that never find a plan, or never one that moves much, would tell too little. */
    private void dueVariety() {
        check.about("variety");
        for (int changed = -1; changed <= 6; changed++) {
            check.yes("plans with " + changed + ": " + plans[changed + 1], plans[changed + 1] > 5);
        }
    }

    private void begin(String about, int seed) {
        check.about(about);
        random = new Random(seed);
        x = new AdvisoryMatch();
        model = new Model();
    }

    /** All packages are full and most are hit, while needs are wide enough for plans to be there. */
    private void onePlanRun(int run) {
        begin("plan run " + run, 7000 + run);
        top = 60;
        for (int p = 0; p < 6; p++) {
            check.same("pack", model.pack(p == 0), x.pack(p == 0));
            for (int v = 1; v <= 5; v++) {
                addVersion(p, 10 * v);
            }
        }
        int advisories = 6 + random.nextInt(7);
        for (int a = 0; a < advisories; a++) {
            check.same("advisory", model.advisory(a % 6), x.advisory(a % 6));
            int from = 10 * random.nextInt(5);
            addSpan(a, from, from + 10 * (1 + random.nextInt(2)));
        }
        int needs = random.nextInt(9);
        for (int n = 0; n < needs; n++) {
            int low = 10 * random.nextInt(3);
            addNeed(random.nextInt(6), 10 * random.nextInt(6), random.nextInt(6), low,
                    low + 20 + 10 * random.nextInt(4));
        }
        for (int round = 0; round < 6; round++) {
            for (int p = 0; p < 6; p++) {
                install(p, random.nextInt(40) == 0 ? -1 : random.nextInt(5));
            }
            comparePlans();
            if (round % 2 == 0) {
                check.same("update", model.update(), x.update());
                check.same("hits", model.hits(), x.hits());
                comparePlans();
            }
        }
    }

    private void comparePlans() {
        int due = model.plan();
        check.same("plan", due, x.plan());
        plans[due + 1]++;
        for (int p = 0; p < 6; p++) {
            check.same("planned", model.planned(p), x.planned(p));
        }
    }

    private void oneRun(int run) {
        begin("run " + run, run);
        top = run % 3 == 0 ? 12 : 60;
        int start = random.nextInt(7);
        for (int p = 0; p < start; p++) {
            boolean root = random.nextInt(3) == 0;
            check.same("pack", model.pack(root), x.pack(root));
            for (int v = 0; v < 4; v++) {
                addVersion(p, random.nextInt(top));
            }
            install(p, random.nextInt(3));
        }
        int calls = 30 + random.nextInt(CALLS / 2);
        for (int c = 0; c < calls; c++) {
            oneCall(random.nextInt(40));
        }
    }

    private void addVersion(int pack, int version) {
        check.same("version", model.version(pack, version), x.version(pack, version));
    }

    private void install(int pack, int place) {
        check.same("install", model.install(pack, place) ? 1 : 0, x.install(pack, place) ? 1 : 0);
    }

    private void addNeed(int pack, int since, int other, int low, int high) {
        check.same("need", model.need(pack, since, other, low, high),
                x.need(pack, since, other, low, high));
    }

    private void addSpan(int advisory, int from, int to) {
        check.same("span", model.span(advisory, from, to) ? 1 : 0,
                x.span(advisory, from, to) ? 1 : 0);
    }

    private int number(int below) {
        return random.nextInt(25) == 0 ? ODD[random.nextInt(ODD.length)] : random.nextInt(below);
    }

    private void oneCall(int kind) {
        boolean on = random.nextBoolean();
        if (kind < 12) {
            build(kind, on);
        } else if (kind < 26) {
            change(kind, on);
        } else {
            ask(kind);
        }
    }

    private void build(int kind, boolean on) {
        int pack = number(6);
        if (kind < 1) {
            check.same("pack", model.pack(on), x.pack(on));
        } else if (kind < 4) {
            addVersion(pack, number(top));
        } else if (kind < 7) {
            int since = number(top);
            int other = number(6);
            int low = number(top / 2);
            int high = on ? number(top) + top / 2 : number(top + 2);
            if (random.nextInt(4) == 0) {
                addNeed(pack, since, other, low, high);
            }
        } else if (kind < 9) {
            check.same("advisory", model.advisory(pack), x.advisory(pack));
        } else {
            int advisory = number(12);
            int from = number(top);
            int to = on ? from + number(top / 3) : number(8) - 1;
            addSpan(advisory, from, to);
        }
    }

    private void change(int kind, boolean on) {
        int pack = number(6);
        int advisory = number(12);
        if (kind < 16) {
            install(pack, random.nextInt(6) == 0 ? -1 : number(5));
        } else if (kind < 18) {
            int need = number(16);
            check.same("call", model.call(need, on) ? 1 : 0, x.call(need, on) ? 1 : 0);
        } else if (kind < 20) {
            int[] c = {number(4), number(2), number(3), number(2), number(27)};
            check.same("severity", model.severity(advisory, c) ? 1 : 0,
                    x.severity(advisory, c[0], c[1], c[2], c[3], c[4]) ? 1 : 0);
        } else if (kind < 21) {
            check.same("withdraw", model.withdraw(advisory, on) ? 1 : 0,
                    x.withdraw(advisory, on) ? 1 : 0);
        } else if (kind < 22) {
            int other = random.nextInt(3) == 0 ? number(12) : advisory;
            check.same("same", model.same(advisory, other), x.same(advisory, other));
        } else if (kind < 24) {
            int end = number(60);
            check.same("except", model.except(advisory, pack, end) ? 1 : 0,
                    x.except(advisory, pack, end) ? 1 : 0);
        } else if (kind < 25) {
            int n = number(3);
            check.same("tick", model.tick(n), x.tick(n));
        } else if (random.nextInt(3) == 0) {
            check.same("update", model.update(), x.update());
        }
    }

    private void ask(int kind) {
        if (kind < 28) {
            int advisory = number(12);
            check.same("group", model.group(advisory), x.group(advisory));
            check.same("score", model.score(advisory), x.score(advisory));
        } else if (kind < 30) {
            check.same("hits", model.hits(), x.hits());
        } else if (kind < 34) {
            int i = number(8);
            for (int what = -1; what < 7; what++) {
                check.same("hit", model.hit(i, what), x.hit(i, what));
            }
        } else if (kind < 36) {
            check.same("broken", model.broken(), x.broken());
        } else if (kind < 38) {
            if (random.nextInt(4) == 0) {
                comparePlans();
            }
        } else {
            int pack = number(7);
            check.same("planned", model.planned(pack), x.planned(pack));
        }
    }
}
