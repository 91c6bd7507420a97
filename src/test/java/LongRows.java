import java.util.Random;

/** THE ORDER of eight and nine BITS, where the runs against the model lay fewer. */
public final class LongRows {
    private static final String[] PLANS = {
        "p1(b<c)", "p3(b+1=c);p1(s=t)", "pb*c%7-s*t%5(0=0)", "p0-[b-c]*[b-c](0=0)", "p[y-z]/100+l-i(b>2|s<t)", "p9(s=t&!b=c)",
    };

    public static void main(String[] args) {
        int wrong = 0;
        for (int seed = 1; seed <= 12; seed++) {
            Twin twin = new Twin();
            tryOne(twin, new Random(seed), seed % 4 == 0 ? 9 : 8, PLANS[seed % PLANS.length]);
            if (twin.failed()) {
                wrong++;
                twin.print();
            }
        }
        System.out.println("rows of eight and nine, " + wrong + " wrong");
        System.exit(wrong == 0 ? 0 : 1);
    }

    private static void tryOne(Twin twin, Random random, int size, String plan) {
        twin.call("author", 1, 1);
        twin.call("work", 0, 9);
        twin.call("writer", 100);
        twin.call("writer", 300);
        for (int i = 0; i < size; i++) {
            twin.call("feed", 0x01020304, 0, 0, 0, 0);
            twin.call("bit", random.nextInt(2), 0, random.nextInt(6), random.nextInt(4), 1 + random.nextInt(4));
        }
        feed(twin, plan);
        twin.call("plan", plan.length());
        for (int turn = 0; turn < 4; turn++) {
            askAll(twin, size);
            twin.call("ahead", random.nextInt(size), random.nextInt(size));
        }
    }

    private static void feed(Twin twin, String plan) {
        for (int start = 0; start < plan.length(); start += 20) {
            long[] five = new long[5];
            for (int i = 0; i < 20; i++) {
                int sign = start + i < plan.length() ? plan.charAt(start + i) : 0;
                five[i / 4] = five[i / 4] << 8 | sign;
            }
            twin.call("feed", five);
        }
    }

    private static void askAll(Twin twin, int size) {
        for (int what = -1; what <= size; what++) twin.call("order", 0, what);
        twin.call("orders", 0);
        for (int x = 0; x < size; x++) {
            for (int y = 0; y < size; y++) twin.call("sure", x, y);
        }
        for (int i = 0; i < size; i++) twin.call("moves", i);
    }
}
