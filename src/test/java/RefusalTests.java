import java.lang.reflect.Method;
import java.lang.reflect.Modifier;
import java.util.ArrayList;
import java.util.List;
import java.util.TreeSet;

/**
 * Section 4: every call with every parameter at the ends of its range and outside of them, in several drives:
 * what is thrown, which of several exceptions, and that nothing has changed behind a refused call or a
 * question. Then the refusals that are answers.
 */
final class RefusalTests {
    /** So many calls are made between two portraits, which leaves an object below its 512 calls. */
    private static final int AT_ONCE = 60;

    private RefusalTests() {
    }

    /** A way to a drive. */
    interface Drive {
        ArmDuel made();
    }

    static void run() {
        theFace();
        sweep("a new object", ArmDuel::new);
        sweep("a busy drive", RefusalTests::busy);
        sweep("a full drive", RefusalTests::full);
        sweep("a drive of 999 rounds", () -> worn(199));
        sweep("a drive of 1000 rounds", () -> worn(200));
        answersChangeNothing();
        questionsWithoutNumbers();
        loadsInError();
    }

    private static void theFace() {
        TreeSet<String> told = new TreeSet<>(Face.others());
        for (Face.Call call : Face.calls(1, 10, 0)) {
            told.add(call.name() + call.limits().length);
        }
        TreeSet<String> there = new TreeSet<>();
        for (Method method : ArmDuel.class.getDeclaredMethods()) {
            if (Modifier.isPublic(method.getModifiers())) {
                boolean isOther = Face.others().contains(method.getName());
                there.add(method.getName() + (isOther ? "" : "" + method.getParameterCount()));
            }
        }
        Check.due("the calls of the face are " + told + ", there are " + there, told.equals(there) ? 1 : 0, 1);
    }

    /** Four rules, a rival, asks and a budget, in the middle of a run, with bytes in the buffer. */
    private static ArmDuel busy() {
        ArmDuel x = Check.drive("drive 40 7; cost 3 2; rule fcfs; rule near; rule scan; rule band 4; master lead;"
                + " rival draw; mix 300 55; foe hurt; budget 4; ask 29; ask 3; ask 16; bound 4 9", 20, 2, 11);
        x.run(3);
        x.saveSnapshot(0);
        x.run(3);
        x.request(14);
        x.request(33);
        Check.load(x, "drive 10 10");
        x.append('d');
        return x;
    }

    /** Six rules, 16 asks, 20 requests and a buffer of 500 bytes. */
    private static ArmDuel full() {
        ArmDuel x = Check.drive("drive 100 99;cost 9 9;rule scan;rule near;rule near;rule wrap;rule band 0;rule fcfs;"
                + "master draw;rival lead;foe list;bound 0 0" + ";ask 5".repeat(15) + ";ask 7");
        x.request(4);
        x.run(2);
        for (int i = 0; i < 20; i++) {
            x.request((7 + 31 * i) % 100);
        }
        for (int i = 0; i < 62; i++) {
            x.append(0x2020202020202020L);
        }
        x.append(0x3B202020L);
        return x;
    }

    /** A drive at the end of its rounds. */
    private static ArmDuel worn(int lastRounds) {
        ArmDuel x = Check.drive("drive 7 3; rule near; rule fcfs; rule scan; rival keep 1; foe ends; bound 9 9", 2, 6);
        for (int i = 0; i < 4; i++) {
            x.run(200);
        }
        x.run(lastRounds);
        x.request(1);
        x.saveSnapshot(1);
        return x;
    }

    private static void sweep(String what, Drive drive) {
        List<String> before = Portrait.of(drive.made());
        ArmDuel first = drive.made();
        List<Face.Call> calls = Face.calls(first.setting(4), first.setting(0), first.rounds());
        ArmDuel x = drive.made();
        int made = 0;
        for (Face.Call call : calls) {
            for (int[] p : combinations(call.limits())) {
                if (call.isChange() && call.due(p) == null) {
                    accepted(what, call, p, drive.made());
                    continue;
                }
                check(what, call, p, x);
                made++;
                if (made % AT_ONCE == 0) {
                    Portrait.same(what + " behind " + call.name(), Portrait.of(x), before);
                    x = drive.made();
                }
            }
        }
        Portrait.same(what + " behind all", Portrait.of(x), before);
    }

    private static void check(String what, Face.Call call, int[] p, ArmDuel x) {
        String text = what + ", " + call.name() + java.util.Arrays.toString(p);
        Class<? extends RuntimeException> due = call.due(p);
        if (due == null) {
            accepted(what, call, p, x);
        } else {
            Check.refused(text, due, () -> call.make().with(x, p));
        }
    }

    private static void accepted(String what, Face.Call call, int[] p, ArmDuel x) {
        try {
            call.make().with(x, p);
            Check.right++;
        } catch (RuntimeException e) {
            Check.wrong++;
            System.out.println(what + ", " + call.name() + java.util.Arrays.toString(p) + " threw " + e);
        }
    }

    private static List<int[]> combinations(Face.Limit[] limits) {
        List<int[]> all = new ArrayList<>();
        all.add(new int[limits.length]);
        for (int i = 0; i < limits.length; i++) {
            List<int[]> more = new ArrayList<>();
            for (int[] one : all) {
                for (int edge : limits[i].edges()) {
                    int[] other = one.clone();
                    other[i] = edge;
                    more.add(other);
                }
            }
            all = more;
        }
        return all;
    }

    private static void answersChangeNothing() {
        ArmDuel x = full();
        Check.due("8 FULL", x.request(3), ArmDuel.FULL);
        Check.due("14 FULL", x.addAsk(3), ArmDuel.FULL);
        Check.due("2 FULL", x.append('d'), ArmDuel.FULL);
        Check.due("56 NONE", x.restoreSnapshot(0), ArmDuel.NONE);
        Check.due("46 NO_VALUE", x.hurtOf(3), ArmDuel.NO_VALUE);
        Check.due("47 NONE", x.worst(), ArmDuel.NONE);
        Portrait.same("refused answers", Portrait.of(x), Portrait.of(full()));
        ArmDuel y = worn(200);
        Check.due("45 NONE behind 1000 rounds", y.runToBreach(1), ArmDuel.NONE);
        Check.due("45 NONE behind 1000 rounds", y.runToBreach(200), ArmDuel.NONE);
        Portrait.same("no rounds left", Portrait.of(y), Portrait.of(worn(200)));
    }

    private static void questionsWithoutNumbers() {
        ArmDuel x = busy();
        x.loadError();
        x.nextRule();
        x.rounds();
        x.best();
        x.swapRegret();
        x.switches();
        x.worst();
        x.breachIn();
        x.append(0);
        Portrait.same("questions without numbers", Portrait.of(x), Portrait.of(busy()));
    }

    /** A load in error changes nothing but the buffer and loadError, wherever the error stands. */
    private static void loadsInError() {
        String[] texts = {"", "drive 20 5; rule near; rule scan; cost 7 7; mix 9 9; foe far; ask 3; ask",
            "drive 20 5; master keep 0", "drive 99 98; budget 3; bound 5 5; rule near; rival keep 0; master lead,",
            "drive 20 5" + "; rule wrap".repeat(7), "drive 20 5" + "; ask 1".repeat(17)};
        int[] errors = {1, 1, 2, 1, 3, 3};
        for (int i = 0; i < texts.length; i++) {
            ArmDuel x = busy();
            x.load();
            int answer = Check.load(x, texts[i]);
            Check.due("3 '" + texts[i] + "' is in error", answer <= -100 ? 1 : 0, 1);
            Check.due("4 the error of '" + texts[i] + "'", x.loadError(), errors[i]);
            List<String> got = Portrait.of(x);
            List<String> want = Portrait.of(busy());
            Check.due("3 the buffer behind an error", x.append(0), 0);
            Portrait.same("3 behind '" + texts[i] + "'", got.subList(2, got.size()), want.subList(2, want.size()));
        }
    }
}
