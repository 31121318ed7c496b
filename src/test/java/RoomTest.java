import java.lang.reflect.Array;
import java.lang.reflect.Constructor;
import java.lang.reflect.Field;
import java.lang.reflect.Method;
import java.lang.reflect.Modifier;
import java.util.Arrays;
import java.util.IdentityHashMap;
import java.util.Map;
import java.util.Random;
import java.util.TreeSet;

/** What an object takes, that its calls throw nothing for any numbers, and that the face is the document's. */
public final class RoomTest {
    private static final String[] FACE = {"back()", "block(int, int)", "bound(int, int)", "cut(int)", "dictionary()",
        "feed(int, int, int, int, int)", "longest(int)", "more(int, int)", "near(int, int)", "open(int)", "out(int)",
        "pack(int, int)", "rule(int)", "set(int, int)", "skip(int, int)", "sum(int)", "told(int)"};
    private static final int[] ODD = {Integer.MIN_VALUE, Integer.MIN_VALUE + 1, -65536, -1, 0, 1, 2, 3, 4, 5, 6, 7, 15, 16,
        80, 95, 128, 254, 255, 1000, 3999, 4000, 4001, 11999, 12000, 65535, 65536, Integer.MAX_VALUE - 1, Integer.MAX_VALUE};
    private static int wrong = 0;

    public static void main(String[] args) throws Exception {
        checkFace();
        checkRoom();
        callWithOddNumbers();
        System.out.println(wrong == 0 ? "all is as due" : wrong + " things are not as due");
        if (wrong != 0) {
            System.exit(1);
        }
    }

    private static void due(String what, Object got, Object want) {
        if (!got.equals(want)) {
            wrong++;
            System.out.println(what + ": " + got + ", due is " + want);
        }
    }

    private static String withTypes(String name, Class<?>[] types) {
        StringBuilder text = new StringBuilder(name + "(");
        for (int i = 0; i < types.length; i++) {
            text.append(i == 0 ? "" : ", ").append(types[i].getSimpleName());
        }
        return text + ")";
    }

    private static void checkFace() {
        TreeSet<String> names = new TreeSet<>();
        for (Method method : FastBlocks.class.getDeclaredMethods()) {
            if (!Modifier.isPrivate(method.getModifiers()) && !method.isSynthetic()) {
                names.add(withTypes(method.getName(), method.getParameterTypes()));
                boolean isLong = method.getName().equals("sum") || method.getName().equals("bound");
                due("the answer of " + method.getName(), method.getReturnType(), isLong ? long.class : int.class);
            }
        }
        due("the methods", names, new TreeSet<>(Arrays.asList(FACE)));
        Constructor<?>[] constructors = FastBlocks.class.getDeclaredConstructors();
        due("the constructors", constructors.length, 1);
        due("the constructor's numbers", constructors[0].getParameterCount(), 0);
        due("final", Modifier.isFinal(FastBlocks.class.getModifiers()), true);
        for (Field field : FastBlocks.class.getDeclaredFields()) {
            boolean told = Arrays.asList("BAD", "NONE", "FULL").contains(field.getName());
            due("public: " + field.getName(), Modifier.isPublic(field.getModifiers()), told);
            due("private: " + field.getName(), Modifier.isPrivate(field.getModifiers()), !told);
        }
    }

    /** Fields and elements of an object and of all that it holds. */
    private static long elementsOf(Object object, Map<Object, Boolean> seen) throws Exception {
        if (object == null || seen.put(object, true) != null) {
            return 0;
        }
        if (object.getClass().isArray()) {
            return Array.getLength(object);
        }
        long n = 0;
        for (Class<?> type = object.getClass(); type != Object.class; type = type.getSuperclass()) {
            for (Field field : type.getDeclaredFields()) {
                if (!Modifier.isStatic(field.getModifiers())) {
                    field.setAccessible(true);
                    n += 1 + (field.getType().isPrimitive() ? 0 : elementsOf(field.get(object), seen));
                }
            }
        }
        return n;
    }

    private static void checkRoom() throws Exception {
        FastBlocks x = new FastBlocks();
        Map<Object, Boolean> seen = new IdentityHashMap<>();
        long elements = elementsOf(x, seen);
        System.out.println("an object takes " + elements + " fields and elements, " + seen.size() + " objects and arrays");
        due("at most 100,000 fields and elements", elements <= 100000, true);
        // No call may replace what it holds: 512 of the dearest calls leave the very same rows behind.
        for (int i = 0; i < 200; i++) {
            x.feed(i * i, i, i * 77, 5, i % 3);
        }
        for (int i = 0; i < 300; i++) {
            x.pack(i % 4, i % 3);
            x.back();
            x.open(i % 4);
            x.back();
        }
        Map<Object, Boolean> later = new IdentityHashMap<>();
        due("the elements after many calls", elementsOf(x, later), elements);
        due("the rows after many calls are those of before", later.keySet().equals(seen.keySet()), true);
    }

    private static int odd(Random random) {
        return random.nextInt(3) == 0 ? random.nextInt(300) - 20 : ODD[random.nextInt(ODD.length)];
    }

    private static void callWithOddNumbers() {
        for (int seed = 0; seed < 1500; seed++) {
            Random random = Pair.random(seed);
            FastBlocks x = new FastBlocks();
            int call = 0;
            try {
                for (; call < 512; call++) {
                    callOne(x, random);
                }
            } catch (RuntimeException | StackOverflowError thrown) {
                wrong++;
                System.out.println("seed " + seed + ", call " + call + " threw " + thrown);
            }
        }
    }

    private static void callOne(FastBlocks x, Random random) {
        switch (random.nextInt(24)) {
            case 0: x.cut(odd(random)); break;
            case 1: x.out(odd(random)); break;
            case 2: x.back(); break;
            case 3: x.dictionary(); break;
            case 4: x.set(odd(random), odd(random)); break;
            case 5: x.set(random.nextInt(6), odd(random)); break;
            case 6: x.pack(random.nextInt(4), random.nextInt(3)); break;
            case 7: x.pack(odd(random), odd(random)); break;
            case 8: x.more(random.nextInt(4), random.nextInt(3)); break;
            case 9: x.skip(random.nextInt(4), odd(random)); break;
            case 10: x.open(random.nextInt(4)); break;
            case 11: x.rule(odd(random)); break;
            case 12: x.block(odd(random), odd(random)); break;
            case 13: x.longest(odd(random)); break;
            case 14: x.near(odd(random), odd(random)); break;
            case 15: x.sum(odd(random)); break;
            case 16: x.bound(odd(random), odd(random)); break;
            case 17: x.told(odd(random)); break;
            case 18: x.more(random.nextBoolean() ? 1 : 3, 0); break;
            default: x.feed(odd(random), random.nextInt(), odd(random), 0, odd(random)); break;
        }
    }
}
