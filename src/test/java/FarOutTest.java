import java.lang.reflect.Method;
import java.util.ArrayList;
import java.util.Arrays;
import java.util.List;
import java.util.Map;
import java.util.TreeMap;

/**
 * All promises: every call with all rows of numbers at the ends of what is told, beyond them and far out; each
 * answer is compared with that of PlainWires, so what is refused is seen, in the order that the calls name.
 */
public final class FarOutTest {
    private static final int LEAST = Integer.MIN_VALUE, MOST = Integer.MAX_VALUE;
    private static final int CALLS_OF_ONE = 300;
    private static final int[] MANY = {LEAST, LEAST + 1, -3, -2, -1, 0, 1, 2, 3, 4, 5, 6, 7, 8, 9, 10, 11, 15, 16, 17, 23,
        24, 25, 31, 32, 33, 40, 41, 63, 64, 65, 126, 127, 128, 255, 256, 65536, 2000000000, 2000000001, MOST - 1, MOST};
    private static final int[] SOME = {LEAST, -2, -1, 0, 1, 2, 3, 4, 5, 7, 8, 9, 16, 24, 25, 63, 64, MOST};
    private static final int[] FEW = {LEAST, -1, 0, 1, 2, 3, 4, 8, 24, 25, MOST};
    private static final int[] FEWEST = {LEAST, -2, -1, 0, 2, 8, MOST};

    private static final String[] TEXTS = {"", "3=5:t0,i21!", "2=1:i10,t0", "6=33:b012,p345!,c05,i51,t3",
        "4:t0,t1,t2,t3,c01,c12,c23,i01,i12!,i23,b012,b123,p012,p123!,t0,t1"};

    private final Method method;
    private final Method plainMethod;
    private final String text;
    private MirrorWires x;
    private PlainWires plain;
    private int calls;
    private int wrong;

    private FarOutTest(Method method, Method plainMethod, String text) {
        this.method = method;
        this.plainMethod = plainMethod;
        this.text = text;
    }

    public static void main(String[] args) {
        Map<String, Method> plain = new TreeMap<>();
        for (Method method : PlainWires.class.getDeclaredMethods()) {
            if (!java.lang.reflect.Modifier.isPrivate(method.getModifiers())) {
                plain.put(method.getName(), method);
            }
        }
        long calls = 0;
        int methods = 0;
        for (Method method : MirrorWires.class.getDeclaredMethods()) {
            if (java.lang.reflect.Modifier.isPublic(method.getModifiers())) {
                methods++;
                for (String text : TEXTS) {
                    FarOutTest test = new FarOutTest(method, plain.get(method.getName()), text);
                    test.all();
                    calls += test.calls;
                    Script.due(method.getName() + " behind '" + text + "': answers unlike", test.wrong, 0);
                }
            }
        }
        Script.due("calls of the face", methods, 39);
        System.out.println(calls + " calls");
        Script.end();
    }

    private void all() {
        Class<?>[] sorts = method.getParameterTypes();
        int[] numbers = sorts.length < 3 ? MANY : sorts.length < 4 ? SOME : sorts.length < 6 ? FEW : FEWEST;
        long rows = 1;
        for (int s = 0; s < sorts.length; s++) {
            rows *= numbers.length;
        }
        for (long row = 0; row < rows && wrong < 3; row++) {
            List<Object> told = new ArrayList<>();
            long left = row;
            for (Class<?> sort : sorts) {
                int number = numbers[(int) (left % numbers.length)];
                told.add(sort == long.class ? (Object) (long) number : (Object) number);
                left /= numbers.length;
            }
            tell(told.toArray());
        }
    }

    private void tell(Object... numbers) {
        if (calls % CALLS_OF_ONE == 0) {
            makeBoth();
        }
        calls++;
        int due = answer(plainMethod, plain, numbers);
        int got = answer(method, x, numbers);
        if (got != due) {
            wrong++;
            System.out.println(method.getName() + Arrays.toString(numbers) + " behind '" + text + "' answered " + got
                    + ", due is " + due);
        }
    }

    private void makeBoth() {
        x = new MirrorWires();
        plain = new PlainWires();
        for (char letter : text.toCharArray()) {
            x.type(letter);
            plain.type(letter);
        }
        x.circuit();
        plain.circuit();
        x.flip(0);
        plain.flip(0);
        int[][] sheets = {{0, 0, 24}, {1, 2, 0}, {2, 2, 8}};
        for (int[] sheet : sheets) {
            x.sheet(sheet[0], sheet[1], sheet[2]);
            plain.sheet(sheet[0], sheet[1], sheet[2]);
        }
        x.film(0, 4, 0, 0, 0);
        plain.film(0, 4, 0, 0, 0);
        x.film(0, 4, 2, 2, 2);
        plain.film(0, 4, 2, 2, 2);
    }

    private static int answer(Method method, Object on, Object... numbers) {
        try {
            return (Integer) method.invoke(on, numbers);
        } catch (ReflectiveOperationException e) {
            throw new IllegalStateException(method + Arrays.toString(numbers) + " threw", e);
        }
    }
}
