import java.lang.reflect.InvocationTargetException;
import java.lang.reflect.Method;
import java.util.ArrayList;
import java.util.Comparator;
import java.util.List;
import java.util.Random;

/** No call throws, whatever its arguments and whatever was called before, and VATS stay within their BRIMS. */
public final class AnyCallTest extends Town {
    private static final int TOWNS = 150;
    private static final int CALLS = 512;
    private static final int[] NUMBERS = {LOW, LOW + 1, -65536, -1009, -100, -7, -4, -3, -2, -1, 0, 1, 2, 3, 4, 5, 6, 7, 8, 10, 15, 16, 20, 21, 31, 39, 40, 41, 56, 63, 64, 99, 100, 120, 121,
        127, 128, 255, 256, 1000, 1008, 1009, 2000, 2001, 9999, 10000, 20000, 20001, 65535, 65536, HIGH - 1, HIGH};
    private static final String[] TEXTS = {"wa(tadb)", "wb(hab)k", "ia(dbdc:tfdede)wf(tf)", "dadbdcdddedf", "wa(wb(tbdc)wc(tcdb)ta)", "a+b=A+B&s=0", "n/[a-b]>k|!l=0", "1=2", "wa(", "a=1+", "\0\1\2\3\4\5", "\0\0\0\0\0\1"};
    private static final int[] PLAIN = {0, 1, 2, 3, 4, 5, 6, 7, 8, 9, 12, 20};

    public static void main(String[] args) throws Exception {
        List<Method> calls = new ArrayList<>(List.of(DyeVats.class.getDeclaredMethods()));
        calls.removeIf(m -> !java.lang.reflect.Modifier.isPublic(m.getModifiers()));
        calls.sort(Comparator.comparing(Method::getName));
        Random chance = new Random(20);
        for (int i = 0; i < TOWNS; i++) {
            String wrong = goThrough(calls, chance);
            if (wrong != null) {
                System.out.println("town " + i + ": " + wrong);
                System.exit(1);
            }
        }
        System.out.println("no call threw");
    }

    private static String goThrough(List<Method> calls, Random chance) throws IllegalAccessException {
        DyeVats x = new DyeVats();
        for (int made = 0; made < CALLS; ) {
            if (chance.nextInt(4) == 0) {
                String text = TEXTS[chance.nextInt(TEXTS.length)];
                fed(x, text);
                made += 2;
                if (chance.nextBoolean()) {
                    x.recipe(chance.nextInt(3), text.length());
                } else {
                    x.spec(text.length());
                }
                continue;
            }
            Method call = calls.get(chance.nextInt(calls.size()));
            Object[] with = new Object[call.getParameterCount()];
            for (int p = 0; p < with.length; p++) {
                int[] from = chance.nextInt(3) == 0 ? NUMBERS : PLAIN;
                with[p] = from[chance.nextInt(from.length)];
            }
            made++;
            try {
                call.invoke(x, with);
            } catch (InvocationTargetException thrown) {
                return call.getName() + List.of(with) + " threw " + thrown.getCause();
            }
        }
        return standing(x);
    }

    private static String standing(DyeVats x) {
        int together = 0;
        for (int v = 0; v < 6; v++) {
            int measure = x.count(10 + v);
            together += measure;
            if (measure < 0 || measure > x.count(20 + v)) {
                return "VAT " + v + " holds " + measure + " of " + x.count(20 + v);
            }
        }
        return together == x.count(6) ? null : "MEASURES together are " + x.count(6);
    }
}
