import java.lang.reflect.InvocationTargetException;
import java.lang.reflect.Method;
import java.lang.reflect.Modifier;
import java.util.ArrayList;
import java.util.Comparator;
import java.util.List;

/** Any call with any numbers in any state comes to an end and throws nothing (rule 7). */
final class AnyCallTest {
    private static long seed = 7;

    static int some(int below) {
        seed = seed * 6364136223846793005L + 1442695040888963407L;
        return (int) ((seed >>> 33) % below);
    }

    static int anyNumber() {
        switch (some(12)) {
            case 0: return Integer.MIN_VALUE + some(3);
            case 1: return Integer.MAX_VALUE - some(3);
            case 2: return (1 << some(32)) - some(3);
            case 3: return -some(70);
            case 4: case 5: return some(70);
            default: return some(14);
        }
    }

    public static void main(String[] args) throws Exception {
        List<Method> all = new ArrayList<>();
        for (Method m : SolidsUnfolded.class.getDeclaredMethods()) {
            if (Modifier.isPublic(m.getModifiers())) {
                all.add(m);
            }
        }
        all.sort(Comparator.comparing(Method::getName));
        String[] texts = {"cube 0 0 0", "cube 1 1 1;cube 1 1 2", "cube 3 3 3;cube 2 3 3;cube 4 3 3;cube 3 2 3;cube 3 4 3",
            "cube 3 3 3;cube 2 3 3;cube 4 3 3;cube 3 2 3;cube 3 4 3;cube 3 3 2;cube 3 3 4"};
        long calls = 0;
        for (int run = 0; run < 1500; run++) {
            SolidsUnfolded x = new SolidsUnfolded();
            for (int i = 0; i < 300; i++) {
                if (some(60) == 0) {
                    PromiseTest.tell(x, texts[some(texts.length)]);
                    x.tree(some(2));
                }
                Method m = all.get(some(all.size()));
                Object[] numbers = new Object[m.getParameterCount()];
                for (int k = 0; k < numbers.length; k++) {
                    numbers[k] = anyNumber();
                }
                try {
                    m.invoke(x, numbers);
                    calls++;
                } catch (InvocationTargetException thrown) {
                    System.out.println(m.getName() + java.util.Arrays.toString(numbers) + " threw " + thrown.getCause());
                    System.exit(1);
                }
            }
        }
        System.out.println(calls + " calls, none threw");
    }
}
