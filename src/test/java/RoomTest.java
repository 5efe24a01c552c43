import com.sun.management.ThreadMXBean;
import java.lang.management.ManagementFactory;
import java.lang.reflect.Method;
import java.lang.reflect.Modifier;
import java.util.Random;

/**
 * All calls of a run share one room, so a call makes nothing but an image on its first keep(); and
 * any call in any state, with any arguments, ends without throwing.
 */
public final class RoomTest {
    private static final Due due = new Due();
    private static final ThreadMXBean BEAN = (ThreadMXBean) ManagementFactory.getThreadMXBean();

    public static void main(String[] args) throws Exception {
        due.part("room");
        run(1);
        long least = Long.MAX_VALUE;
        for (int i = 0; i < 5; i++) {
            long before = allocated();
            run(i);
            least = Math.min(least, allocated() - before);
        }
        due.isTrue("a run of about 500 calls takes " + least + " bytes, 80000 at most", least <= 80000);
        long before = allocated();
        TwinOrders made = new TwinOrders();
        long one = allocated() - before;
        due.isTrue("an object takes " + one + " bytes, 50000 at most", one <= 50000);
        due.is("it is empty", made.count(0), 0);
        System.out.println("an object takes " + one + " bytes, a run " + least);
        anyArguments();
        due.end("RoomTest");
    }

    private static long allocated() {
        return BEAN.getThreadAllocatedBytes(Thread.currentThread().getId());
    }

    private static int run(int seed) {
        TwinOrders x = new TwinOrders();
        int sum = 0;
        x.listen(-1, 1, 0, 1, 1, 3);
        x.listen(2, 2, 0, 2, 5, 0);
        x.resize(200);
        for (int i = 0; i < 12; i++) {
            sum += x.chance(seed + i, 60) + x.keep(i % 2) + x.back(i % 2) + x.way(i % 5) + x.tick(3)
                    + x.put(i, i, 9, 4) + x.get(i) + x.remove(i) + x.pin(i + 1, i % 3 == 0) + x.resize(200 + i);
            sum += x.entry(i, 6) + x.order(1, i) + x.ghost(0, i) + x.bucket(-1, 0) + x.bucket(i, 2) + x.listener(0, 1)
                    + x.heard(i, 3) + x.request(i) + x.victim(4) + x.victims(50, 0) + x.room(0) + x.kept(60, 0);
            sum += x.pack(100) + x.wakes(0, 1) + x.ring(1) + x.stir(i, 9, 50, 1) + x.behind(i, 99, 1) + x.turnOf(i)
                    + x.lead(1, 9) + x.logged(0, 2) + x.hot(3, 0) + x.profile(4) + x.agree(9, 0) + x.regret(4, 7, 1)
                    + x.distance(80) + x.replay(5, 9, 0) + x.replayed(2, 9, 3) + x.least(3, 20) + x.best(8, 1) + x.count(14);
        }
        return sum;
    }

    private static void anyArguments() throws Exception {
        due.part("any arguments");
        int[] odd = {Integer.MIN_VALUE, Integer.MIN_VALUE + 1, -10000, -1000, -2, -1, 0, 1, 2, 3, 5, 8, 9, 15, 16, 39, 40,
            59, 60, 61, 98, 99, 100, 998, 999, 1000, 5000, 5001, 9999, 10000, Integer.MAX_VALUE - 1, Integer.MAX_VALUE};
        Random dice = new Random(43);
        for (int objects = 0; objects < 300; objects++) {
            TwinOrders x = new TwinOrders();
            for (int calls = 0; calls < 512; calls++) {
                Method[] all = TwinOrders.class.getMethods();
                Method m = all[dice.nextInt(all.length)];
                if (m.getDeclaringClass() != TwinOrders.class || Modifier.isStatic(m.getModifiers())) {
                    continue;
                }
                Object[] args = new Object[m.getParameterCount()];
                for (int i = 0; i < args.length; i++) {
                    boolean flag = m.getParameterTypes()[i] == boolean.class;
                    args[i] = flag ? (Object) dice.nextBoolean() : (Object) odd[dice.nextInt(odd.length)];
                }
                m.invoke(x, args);
            }
            due.isTrue("cap is load at least", x.count(2) >= x.count(1));
            due.isTrue("balance is within cap", x.count(4) >= 0 && x.count(4) <= x.count(2));
            due.isTrue("sixty at most", x.count(0) <= 60);
        }
    }
}
