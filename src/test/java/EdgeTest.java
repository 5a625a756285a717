import java.lang.reflect.InvocationTargetException;
import java.lang.reflect.Method;
import java.lang.reflect.Modifier;
import java.util.ArrayList;
import java.util.Arrays;
import java.util.Comparator;
import java.util.List;
import java.util.Random;

/** No call throws or fails to end, whatever its numbers, in states full and empty. */
public final class EdgeTest {
    private static final int[] EDGES = {Integer.MIN_VALUE, Integer.MIN_VALUE + 1, -1000, -999, -10, -9, -1, 0, 1, 2, 3, 4, 5, 6, 7, 8,
        10, 11, 12, 13, 31, 32, 33, 39, 40, 41, 59, 60, 61, 64, 97, 99, 100, 108, 120, 255, 256, 4095, 4096, 9999, 10000, 19999, 20000,
        20001, Integer.MAX_VALUE - 1, Integer.MAX_VALUE};
    private static final String[] BOOKS = {"", "a#b#c#d#e#f#g#h#i#j#k#l#", "a>bb>cc>dd>ee>ff>gg>hh>ii>jj>kk>ll[0,99]",
        "a*bcb*cdc*ded*efe*fgf*ghg*hih*iji*jkj*klk=??l=??", "a*bbb*aa", "a>b", "a~0,99b~0,99c~0,99d~0,99e~0,99f~0,99g~0,99h~0,99",
        "a[0,99]b[0,99]c*abd>ce#f=xxg~5,6"};

    private final Random random;
    private final BurntLedger ledger = new BurntLedger();
    private final List<Method> methods = new ArrayList<>();
    private final List<String> calls = new ArrayList<>();

    private EdgeTest(int seed) {
        random = new Random(seed);
        for (Method m : BurntLedger.class.getDeclaredMethods()) if (Modifier.isPublic(m.getModifiers())) methods.add(m);
        methods.sort(Comparator.comparing(Method::getName));
    }

    private int edge() {
        return random.nextInt(3) == 0 ? random.nextInt(12) : EDGES[random.nextInt(EDGES.length)];
    }

    private void write(String text) {
        ledger.text(0, text.length());
        for (int i = 0; i < text.length(); i++) ledger.put(0, i, text.charAt(i));
        ledger.book(0);
        ledger.row(0, 12);
        for (int i = 0; i < 12; i++) ledger.lay(0, i, random.nextInt(12));
        ledger.heap(0);
        for (int s = 0; s < 8; s++) ledger.sum(1 + random.nextInt(2047), 2048, random.nextInt(300));
    }

    private String run() {
        write(BOOKS[random.nextInt(BOOKS.length)]);
        for (int k = 0; k < 400; k++) {
            Method m = methods.get(random.nextInt(methods.size()));
            Object[] args = new Object[m.getParameterCount()];
            for (int i = 0; i < args.length; i++) args[i] = edge();
            calls.add(m.getName() + Arrays.toString(args));
            try {
                m.invoke(ledger, args);
            } catch (InvocationTargetException e) {
                return e.getCause() + " behind " + calls;
            } catch (IllegalAccessException e) {
                return e.toString();
            }
        }
        return null;
    }

    public static void main(String[] args) {
        int wrong = 0;
        for (int seed = 0; seed < 300; seed++) {
            String thrown = new EdgeTest(seed).run();
            if (thrown != null) {
                wrong++;
                System.out.println("seed " + seed + ": " + thrown);
            }
        }
        System.out.println("300 runs of numbers at the edges, " + wrong + " threw");
        if (wrong != 0) System.exit(1);
    }
}
