import java.lang.reflect.Array;
import java.lang.reflect.Field;
import java.lang.reflect.Modifier;
import java.util.ArrayList;
import java.util.Collections;
import java.util.IdentityHashMap;
import java.util.List;
import java.util.Set;

/** The room that an object takes, and that no call but the first of each snapshot makes it greater. */
final class RoomTests {
    private static final int MOST_OBJECTS = 400;
    private static final int MOST_ELEMENTS = 40000;

    private RoomTests() {
    }

    static void run() {
        ArmDuel x = Check.drive("drive 100 50; cost 1 1; rule near; rule fcfs; rule scan; rule wrap; rule band 3;"
                + " rule near; master draw; rival lead; foe hurt; budget 9; bound 3 3; ask 4; ask 99");
        x.saveSnapshot(0);
        x.saveSnapshot(1);
        Set<Object> before = reached(x);
        Check.due("objects of a drive: " + before.size(), before.size() <= MOST_OBJECTS ? 1 : 0, 1);
        int elements = elements(before);
        Check.due("elements of a drive: " + elements, elements <= MOST_ELEMENTS ? 1 : 0, 1);
        use(x);
        Set<Object> after = reached(x);
        Check.due("objects behind many calls", after.size(), before.size());
        int same = 0;
        for (Object one : after) {
            same += before.contains(one) ? 1 : 0;
        }
        Check.due("objects that are used again", same, before.size());
    }

    private static void use(ArmDuel x) {
        for (Face.Call call : Face.calls(6, 100, 0)) {
            int[] p = new int[call.limits().length];
            for (int i = 0; i < p.length; i++) {
                Face.Limit limit = call.limits()[i];
                p[i] = Math.max(limit.least(), Math.min(limit.most(), 5));
            }
            call.make().with(x, p);
        }
        x.worst();
        x.breachIn();
        x.evenWeights();
        Check.load(x, "drive 9 9");
        Check.load(x, "drive 9 8; rule near; ask 3");
        x.run(200);
    }

    /** All objects and arrays that an object holds, each of them once. */
    private static Set<Object> reached(Object first) {
        Set<Object> all = Collections.newSetFromMap(new IdentityHashMap<>());
        List<Object> open = new ArrayList<>(List.of(first));
        while (!open.isEmpty()) {
            Object one = open.remove(open.size() - 1);
            if (all.add(one)) {
                open.addAll(held(one));
            }
        }
        return all;
    }

    private static List<Object> held(Object one) {
        List<Object> all = new ArrayList<>();
        if (one.getClass().isArray()) {
            for (int i = 0; !one.getClass().getComponentType().isPrimitive() && i < Array.getLength(one); i++) {
                all.add(Array.get(one, i));
            }
        } else {
            for (Field field : fields(one)) {
                all.add(valueOf(field, one));
            }
        }
        all.removeIf(held -> held == null);
        return all;
    }

    private static List<Field> fields(Object one) {
        List<Field> all = new ArrayList<>(List.of(one.getClass().getDeclaredFields()));
        all.removeIf(field -> Modifier.isStatic(field.getModifiers()) || field.getType().isPrimitive());
        return all;
    }

    private static Object valueOf(Field field, Object one) {
        try {
            field.setAccessible(true);
            return field.get(one);
        } catch (IllegalAccessException e) {
            Check.due("the field " + field.getName() + " can be read", 0, 1);
            return null;
        }
    }

    private static int elements(Set<Object> all) {
        int sum = 0;
        for (Object one : all) {
            sum += one.getClass().isArray() ? Array.getLength(one) : one.getClass().getDeclaredFields().length;
        }
        return sum;
    }
}
