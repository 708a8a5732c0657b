import java.lang.reflect.InvocationTargetException;
import java.lang.reflect.Method;
import java.lang.reflect.Modifier;
import java.util.ArrayList;
import java.util.Arrays;
import java.util.Comparator;
import java.util.List;

/** Any call with any numbers in any state comes to an end and throws nothing (rule 7), after 512 calls too. */
final class AnyCallTest extends Check {
    private static final String[] TEXTS = {CUBE, "cube 1 1 1;cube 1 1 2", BENT, FOUR,
        "cube 3 3 3;cube 2 3 3;cube 4 3 3;cube 3 2 3;cube 3 4 3", STAR,
        "cube0 0 0;cube0 0 1;cube0 0 2;cube0 0 3;cube0 0 4;cube0 0 5;cube0 0 6"};
    private static final int[] EDGES = {LEAST, LEAST + 1, -1001, -3, -2, -1, 0, 1, 2, 3, 4, 5, 7, 10, 14, 22,
        29, 30, 31, 32, 59, 60, 61, 62, 63, 64, 119, 120, 200, 1 << 16, 1 << 28, 1 << 30, (1 << 30) + 1,
        MOST / 2, MOST - 1, MOST};
    private static final List<Method> ALL = new ArrayList<>();
    private static long seed = 7;
    private static long calls = 0;

    static int some(int below) {
        seed = seed * 6364136223846793005L + 1442695040888963407L;
        return (int) ((seed >>> 33) % below);
    }

    static int anyNumber() {
        switch (some(12)) {
            case 0: return LEAST + some(3);
            case 1: return MOST - some(3);
            case 2: return (1 << some(32)) - some(3);
            case 3: return -some(70);
            case 4: case 5: return some(70);
            default: return some(14);
        }
    }

    static void put(SolidsUnfolded x, String text) {
        x.end(0);
        String full = text + "?".repeat((20 - text.length() % 20) % 20);
        for (int k = 0; k < full.length(); k += 20) {
            int[] n = new int[5];
            for (int i = 0; i < 20; i++) {
                n[i / 4] = n[i / 4] << 8 | full.charAt(k + i);
            }
            x.feed(n[0], n[1], n[2], n[3], n[4]);
        }
        x.end(text.length());
    }

    static void call(SolidsUnfolded x, Method m, Object... numbers) throws Exception {
        try {
            m.invoke(x, numbers);
            calls++;
        } catch (InvocationTargetException thrown) {
            System.out.println(m.getName() + Arrays.toString(numbers) + " threw " + thrown.getCause());
            System.exit(1);
        }
    }

    static void anyCalls(SolidsUnfolded x, int many) throws Exception {
        for (int i = 0; i < many; i++) {
            if (some(60) == 0) {
                put(x, TEXTS[some(TEXTS.length)]);
                x.solid();
                x.tree(some(2));
            }
            Method m = ALL.get(some(ALL.size()));
            Object[] numbers = new Object[m.getParameterCount()];
            for (int k = 0; k < numbers.length; k++) {
                numbers[k] = anyNumber();
            }
            call(x, m, numbers);
        }
    }

    /** Each call with each of the numbers on the edge, in each place, on one object for each state. */
    static void edgeNumbers() throws Exception {
        for (int state = 0; state < 3 * TEXTS.length + 1; state++) {
            for (Method m : ALL) {
                SolidsUnfolded x = new SolidsUnfolded();
                if (state > 0) {
                    put(x, TEXTS[(state - 1) / 3]);
                    x.solid();
                    x.tree(state % 3);
                    x.keep(0);
                }
                int count = m.getParameterCount();
                Object[] numbers = new Object[count];
                int combinations = (int) Math.pow(EDGES.length, Math.min(count, 2));
                for (int i = 0; i < combinations; i++) {
                    for (int k = 0; k < count; k++) {
                        numbers[k] = EDGES[(k == 0 ? i : k == 1 ? i / EDGES.length : i * 7 + k) % EDGES.length];
                    }
                    call(x, m, numbers);
                }
            }
        }
    }

    /** Any bytes on the TAPE, and texts with any one byte changed. */
    static void anyTexts() throws Exception {
        SolidsUnfolded x = new SolidsUnfolded();
        for (int i = 0; i < 20000; i++) {
            if (i % 2 == 0) {
                char[] text = TEXTS[some(TEXTS.length)].toCharArray();
                for (int k = some(3); k >= 0; k--) {
                    text[some(text.length)] = (char) some(256);
                }
                put(x, new String(text));
            } else {
                for (int k = some(11); k >= 0; k--) {
                    x.feed(anyNumber(), anyNumber(), anyNumber() * some(1 << 20), 0x63756265, 0x20302030);
                }
                x.end(some(201));
            }
            x.solid();
            calls++;
        }
    }

    public static void main(String[] args) throws Exception {
        for (Method m : SolidsUnfolded.class.getDeclaredMethods()) {
            if (Modifier.isPublic(m.getModifiers())) {
                ALL.add(m);
            }
        }
        ALL.sort(Comparator.comparing(Method::getName));
        for (int run = 0; run < 1500; run++) {
            anyCalls(new SolidsUnfolded(), 300);
        }
        anyCalls(new SolidsUnfolded(), 50000);
        edgeNumbers();
        anyTexts();
        System.out.println(calls + " calls, none threw");
    }
}
