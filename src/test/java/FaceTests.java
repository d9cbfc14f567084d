import java.lang.reflect.Constructor;
import java.lang.reflect.Field;
import java.lang.reflect.Method;
import java.lang.reflect.Modifier;
import java.util.ArrayList;
import java.util.List;
import java.util.TreeSet;
import java.util.regex.Matcher;
import java.util.regex.Pattern;

/** The public face, as the document prints it, and that there is nothing else to be seen of the class. */
final class FaceTests {
    private static final String CALLS = """
            public int append(long bytes);
            public int load();
            public int loadError();
            public int setting(int what) throws IllegalArgumentException;
            public int rule(int rule, int what) throws IndexOutOfBoundsException, IllegalArgumentException;
            public int ask(int index);
            public int request(int cylinder) throws IllegalArgumentException;
            public int setFoe(int kind) throws IllegalArgumentException;
            public int setMaster(int kind, int rule) throws IllegalArgumentException, IndexOutOfBoundsException;
            public int setEta(int eta) throws IllegalArgumentException;
            public int setBudget(int budget) throws IllegalArgumentException;
            public int setBound(int base, int root) throws IllegalArgumentException;
            public int addAsk(int cylinder) throws IllegalArgumentException;
            public int evenWeights();
            public int arm(int arm, int what) throws IndexOutOfBoundsException, IllegalArgumentException;
            public int waiting(int arm, int index, int what) \
            throws IndexOutOfBoundsException, IllegalArgumentException;
            public int wouldServe(int arm, int rule) throws IndexOutOfBoundsException;
            public int optimum(int many) throws IllegalArgumentException;
            public int optimumAt(int many, int place) throws IllegalArgumentException;
            public int nextRule();
            public int served(int index, int what) throws IllegalArgumentException;
            public int rounds();
            public int regret(int what) throws IllegalArgumentException;
            public int best();
            public int regretTo(int rule) throws IndexOutOfBoundsException;
            public int swapCost(int rule, int other) throws IndexOutOfBoundsException;
            public int swapRegret();
            public int bestSwap(int rule) throws IndexOutOfBoundsException;
            public int rival(int what) throws IllegalArgumentException;
            public int cost(int arm, int round) throws IndexOutOfBoundsException;
            public int taken(int round);
            public int bestPair(int what) throws IllegalArgumentException;
            public int cheaper(int rule, int other) throws IndexOutOfBoundsException;
            public int leads(int rule) throws IndexOutOfBoundsException;
            public int switches();
            public int streak(int rule) throws IndexOutOfBoundsException;
            public int dearest(int rule, int length) throws IndexOutOfBoundsException, IllegalArgumentException;
            public int windowRegret(int from, int length) throws IllegalArgumentException;
            public int windowBest(int from, int length) throws IllegalArgumentException;
            public int worstWindow(int length) throws IllegalArgumentException;
            public double meanCost(int arm) throws IndexOutOfBoundsException;
            public float share(int rule) throws IndexOutOfBoundsException;
            public int run(int rounds) throws IllegalArgumentException;
            public int runToBreach(int most) throws IllegalArgumentException;
            public int hurtOf(int cylinder) throws IllegalArgumentException;
            public int worst();
            public int regretIn(int rounds) throws IllegalArgumentException;
            public int costIn(int arm, int rounds) throws IndexOutOfBoundsException, IllegalArgumentException;
            public int breachIn();
            public int regretKeeping(int rule, int rounds) \
            throws IndexOutOfBoundsException, IllegalArgumentException;
            public int regretAgainst(int kind, int rounds) throws IllegalArgumentException;
            public int rivalIn(int rounds) throws IllegalArgumentException;
            public int budgetFor(int regret);
            public int saveSnapshot(int slot) throws IllegalArgumentException;
            public int restoreSnapshot(int slot) throws IllegalArgumentException;
            """;
    private static final Pattern CALL = Pattern.compile("public (\\w+) (\\w+)\\((.*?)\\)(?: throws (.*))?;");

    private FaceTests() {
    }

    static void run() {
        calls();
        theClass();
        constants();
        nothingElse();
    }

    /** Each call with its types and what it throws, as "int setting(int) IllegalArgumentException". */
    private static TreeSet<String> told() {
        TreeSet<String> all = new TreeSet<>();
        Matcher matcher = CALL.matcher(CALLS);
        while (matcher.find()) {
            String types = matcher.group(3).replaceAll("(\\w+) \\w+", "$1");
            String thrown = matcher.group(4) == null ? "" : " " + matcher.group(4);
            all.add(matcher.group(1) + " " + matcher.group(2) + "(" + types + ")" + thrown);
        }
        return all;
    }

    private static String names(Class<?>[] types) {
        List<String> names = new ArrayList<>();
        for (Class<?> type : types) {
            names.add(type.getSimpleName());
        }
        return String.join(", ", names);
    }

    private static void calls() {
        TreeSet<String> there = new TreeSet<>();
        for (Method method : ArmDuel.class.getDeclaredMethods()) {
            if (Modifier.isPrivate(method.getModifiers())) {
                continue;
            }
            String what = method.getName() + " is public and nothing else";
            Check.due(what, method.getModifiers(), Modifier.PUBLIC);
            String thrown = names(method.getExceptionTypes());
            there.add(method.getReturnType().getSimpleName() + " " + method.getName() + "("
                    + names(method.getParameterTypes()) + ")" + (thrown.isEmpty() ? "" : " " + thrown));
        }
        TreeSet<String> told = told();
        Check.due("calls that the document tells", told.size(), 55);
        for (String call : told) {
            Check.due("there is " + call, there.contains(call) ? 1 : 0, 1);
        }
        for (String call : there) {
            Check.due("the document tells " + call, told.contains(call) ? 1 : 0, 1);
        }
    }

    private static void theClass() {
        Check.due("public and final", ArmDuel.class.getModifiers(), Modifier.PUBLIC | Modifier.FINAL);
        Check.due("no package", ArmDuel.class.getPackageName().length(), 0);
        Check.due("it extends nothing", ArmDuel.class.getSuperclass() == Object.class ? 1 : 0, 1);
        Check.due("interfaces", ArmDuel.class.getInterfaces().length, 0);
        Constructor<?>[] constructors = ArmDuel.class.getDeclaredConstructors();
        Check.due("constructors", constructors.length, 1);
        Check.due("a public constructor", constructors[0].getModifiers(), Modifier.PUBLIC);
        Check.due("its parameters", constructors[0].getParameterCount(), 0);
        Check.due("its exceptions", constructors[0].getExceptionTypes().length, 0);
    }

    private static void constants() {
        String[] names = {"NONE", "FULL", "NO_VALUE"};
        int[] values = {-1, -2, -2000000000};
        for (int i = 0; i < names.length; i++) {
            try {
                Field field = ArmDuel.class.getField(names[i]);
                Check.due(names[i] + " is a constant", field.getModifiers(),
                        Modifier.PUBLIC | Modifier.STATIC | Modifier.FINAL);
                Check.due(names[i] + " is an int", field.getType() == int.class ? 1 : 0, 1);
                Check.due(names[i], field.getInt(null), values[i]);
            } catch (ReflectiveOperationException e) {
                Check.due("there is " + names[i], 0, 1);
            }
        }
    }

    private static void nothingElse() {
        Check.due("public fields", ArmDuel.class.getFields().length, 3);
        for (Field field : ArmDuel.class.getDeclaredFields()) {
            if (!Modifier.isPublic(field.getModifiers())) {
                Check.due(field.getName() + " is private", Modifier.isPrivate(field.getModifiers()) ? 1 : 0, 1);
            }
        }
        for (Class<?> inside : ArmDuel.class.getDeclaredClasses()) {
            int shown = inside.getModifiers() & (Modifier.PUBLIC | Modifier.PROTECTED);
            Check.due(inside.getSimpleName() + " is not shown", shown, 0);
            Check.due(inside.getSimpleName() + " is static", Modifier.isStatic(inside.getModifiers()) ? 1 : 0, 1);
        }
    }
}
