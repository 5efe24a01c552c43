import java.lang.reflect.Method;
import java.util.Arrays;
import java.util.Comparator;
import java.util.Random;

/**
 * Random runs of up to 512 calls on the class and on the model beside it: every answer must be the
 * same, and at the end of a run all that can be asked. Seeds are fixed, so a fault comes again.
 */
public final class ModelTest {
    private static final String[] DOING = {"put", "put", "put", "put", "put", "put", "get", "get", "get",
        "get", "remove", "pin", "pin", "resize", "way", "aging", "tick", "listen", "turn", "chance",
        "keep", "back"};
    private static final int RUNS = 700;

    private final Random dice;
    private final TwinOrders object = new TwinOrders();
    private final Model model = new Model();
    private final int keys;
    private final int weights;
    private final int lives;
    private final boolean wild;
    private final StringBuilder told = new StringBuilder();
    private int calls;
    private int wrong;

    private static final Method[] FACE = face();

    private ModelTest(int seed) {
        dice = new Random(seed);
        keys = new int[] {6, 15, 30, 90, 1000}[dice.nextInt(5)];
        weights = new int[] {1, 3, 12, 99}[dice.nextInt(4)];
        lives = dice.nextInt(4);
        wild = dice.nextInt(5) == 0;
    }

    private static Method[] face() {
        Method[] all = TwinOrders.class.getDeclaredMethods();
        Method[] open = Arrays.stream(all)
                .filter(m -> java.lang.reflect.Modifier.isPublic(m.getModifiers()))
                .sorted(Comparator.comparing(Method::getName)).toArray(Method[]::new);
        return open;
    }

    public static void main(String[] args) throws Exception {
        int from = args.length > 0 ? Integer.parseInt(args[0]) : 1;
        int runs = args.length > 1 ? Integer.parseInt(args[1]) : RUNS;
        int bad = 0;
        long asked = 0;
        for (int seed = from; seed < from + runs && bad < 5; seed++) {
            ModelTest run = new ModelTest(seed);
            run.go();
            asked += run.calls;
            if (run.wrong > 0) {
                bad++;
                System.out.println("seed " + seed + ":" + run.told);
            }
        }
        System.out.println(asked + " answers in " + runs + " runs beside the model, runs at fault: " + bad);
        if (bad > 0) {
            System.exit(1);
        }
    }

    private void go() throws Exception {
        setUp();
        int length = 40 + dice.nextInt(400);
        for (int i = 0; i < length && wrong == 0; i++) {
            if (dice.nextInt(100) < 60) {
                step(named(DOING[dice.nextInt(DOING.length)]));
            } else {
                step(FACE[dice.nextInt(FACE.length)]);
            }
        }
        if (wrong == 0) {
            askAll();
        }
    }

    private void setUp() throws Exception {
        if (dice.nextBoolean()) {
            call(named("resize"), new Object[] {new int[] {0, 3, 10, 40, 60, 200, 1000, 5000}[dice.nextInt(8)]});
        }
        call(named("way"), new Object[] {dice.nextInt(5)});
        int ears = dice.nextInt(3) == 0 ? dice.nextInt(9) : dice.nextInt(3);
        for (int i = 0; i < ears; i++) {
            step(named("listen"));
        }
        if (dice.nextInt(4) == 0) {
            call(named("aging"), new Object[] {1 + dice.nextInt(9)});
        }
    }

    private static Method named(String name) {
        return Arrays.stream(FACE).filter(m -> m.getName().equals(name)).findFirst().orElseThrow();
    }

    private void step(Method m) throws Exception {
        if (dice.nextInt(12) != 0 && (m.getName().equals("least") || m.getName().equals("room"))) {
            return;
        }
        call(m, argumentsFor(m));
    }

    private Object[] argumentsFor(Method m) {
        Class<?>[] types = m.getParameterTypes();
        Object[] args = new Object[types.length];
        for (int i = 0; i < types.length; i++) {
            args[i] = types[i] == boolean.class ? (Object) (dice.nextInt(3) != 0) : (Object) number(m.getName(), i);
        }
        if (m.getName().equals("listen") && dice.nextInt(6) != 0) {
            args[2] = dice.nextInt((Integer) args[1] > 0 ? Math.min((Integer) args[1], 9) : 1);
        }
        return args;
    }

    /** Mostly what can be, now and then a step beside it, in wild runs anything. */
    private int number(String name, int place) {
        if (dice.nextInt(wild ? 6 : 60) == 0) {
            int[] odd = {-1, -2, 0, 1, Integer.MIN_VALUE, Integer.MAX_VALUE, 60, 61, 99, 100, 999, 1000,
                5000, 5001, -9999, -10000, 9999, 10000, dice.nextInt(), dice.nextInt(200) - 100};
            return odd[dice.nextInt(odd.length)];
        }
        switch (name + place) {
            case "put0": case "get0": case "remove0": case "pin0": case "entry0": case "stir0":
            case "behind0": case "turnOf0":
                return dice.nextInt(keys);
            case "put1":
                return dice.nextInt(19999) - 9999;
            case "put2": case "victims0": case "stir1":
                return 1 + dice.nextInt(weights);
            case "put3":
                return dice.nextInt(4) < lives ? 1 + dice.nextInt(20) : 0;
            case "resize0": case "kept0":
                return dice.nextInt(3) == 0 ? dice.nextInt(5001) : Math.max(0, model.cap + dice.nextInt(41) - 22);
            case "pack0":
                return dice.nextInt(Math.min(5000, model.load() + 5) + 1);
            case "way0": case "victim0":
                return dice.nextInt(5);
            case "aging0":
                return dice.nextBoolean() ? 1 + dice.nextInt(20) : 1 + dice.nextInt(999);
            case "tick0":
                return dice.nextInt(5) == 0 ? 1 + dice.nextInt(999) : 1 + dice.nextInt(6);
            case "listen0":
                return dice.nextInt(8) - 1;
            case "listen1":
                return 1 + dice.nextInt(dice.nextBoolean() ? 3 : 9);
            case "listen2":
                return dice.nextInt(3);
            case "listen3":
                return dice.nextInt(7);
            case "listen4":
                return dice.nextBoolean() ? dice.nextInt(7) - 3 : dice.nextInt(1999) - 999;
            case "listen5":
                return 1 + dice.nextInt(weights);
            case "turn0": case "listener0": case "wakes0": case "wakes1": case "ring0":
                return dice.nextInt(Math.max(1, model.ears.size()));
            case "chance0":
                return dice.nextInt(Integer.MAX_VALUE);
            case "chance1":
                return dice.nextInt(dice.nextInt(4) == 0 ? 61 : 12);
            case "keep0": case "back0": case "ghost0": case "order0": case "lead0":
            case "regret2": case "best1": case "hot1":
                return dice.nextInt(2);
            case "behind1":
                return 1 + dice.nextInt(dice.nextBoolean() ? 5 : 99);
            case "victims1": case "kept1": case "stir2": case "agree1": case "bucket0": case "hot0":
                return dice.nextInt(8) - 1;
            case "logged0":
                return dice.nextInt(7);
            case "replay0": case "replayed0": case "least0": case "regret0":
                return dice.nextInt(6);
            case "replay1": case "replayed1": case "regret1": case "best0": case "agree0":
                return dice.nextBoolean() ? dice.nextInt(10) : dice.nextInt(61);
            case "least1":
                return dice.nextInt(30);
            case "distance0": case "request0":
                return dice.nextInt(100);
            case "profile0":
                return dice.nextInt(12) - 1;
            case "count0":
                return dice.nextInt(21);
            case "entry1":
                return dice.nextInt(9);
            default:
                return place == 0 ? dice.nextInt(20) : dice.nextInt(7) - 1;
        }
    }

    private void call(Method m, Object[] args) throws Exception {
        int due = (Integer) Model.class.getMethod(m.getName(), m.getParameterTypes()).invoke(model, args);
        int got = (Integer) m.invoke(object, args);
        calls++;
        String text = m.getName() + Arrays.toString(args).replace('[', '(').replace(']', ')');
        if (calls < 60) {
            told.append(' ').append(text);
        }
        if (got != due) {
            wrong++;
            told.append("\n  call ").append(calls).append(' ').append(text).append(" answered ")
                    .append(got).append(", due is ").append(due);
        }
    }

    private void askAll() throws Exception {
        for (int what = -1; what <= 20; what++) {
            ask("count", what);
        }
        for (int key = 0; key < 1000; key++) {
            for (int what = 0; what < 8 && (model.at(key) != null || what == 0); what++) {
                ask("entry", key, what);
            }
        }
        for (int k = -1; k <= 60; k++) {
            for (int two = -1; two <= 2; two++) {
                ask("order", two, k);
                ask("ghost", two, k);
                ask("bucket", k, two);
                ask("listener", k, two);
                ask("lead", two, k);
            }
            for (int what = -1; what <= 5; what++) {
                ask("heard", k, what);
                ask("logged", k, what);
            }
        }
        for (int k = -1; k <= 100; k++) {
            ask("request", k);
            ask("distance", k);
            ask("profile", k);
        }
        for (int way = -1; way <= 6; way++) {
            ask("victim", way);
        }
        for (int listener = 0; listener < 8; listener++) {
            ask("ring", listener);
        }
        ask("room", 0);
        ask("room", 1);
    }

    private void ask(String name, Object... args) throws Exception {
        call(named(name), args);
    }
}
