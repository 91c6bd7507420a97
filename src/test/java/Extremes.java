import java.util.Map;
import java.util.Random;
import java.util.TreeMap;

/** Every call with arguments at and beyond all edges, on objects without and with much in them. */
public final class Extremes {
    private static final long[] EDGES = {
        Integer.MIN_VALUE, Integer.MIN_VALUE + 1, -1000001, -65536, -41, -20, -10, -3, -2, -1, 0, 1, 2, 3, 4, 5, 6, 7, 8,
        9, 10, 11, 12, 17, 18, 20, 27, 28, 31, 32, 39, 40, 41, 63, 64, 65, 100, 101, 160, 161, 200, 201, 999, 1000, 1001,
        2000, 2001, 65535, 65536, 1 << 28, 1 << 29, 1 << 30, (1 << 30) + 1, Integer.MAX_VALUE - 1, Integer.MAX_VALUE,
    };
    private static final long[] LONG_EDGES = {
        Long.MIN_VALUE, -1, 0, 1, 2, 3, 63, 127, 255, 1L << 38, 1L << 39, 1L << 40, 1L << 62, Long.MAX_VALUE, 0xFFFFFFFFFFL,
    };

    public static void main(String[] args) {
        int wrong = 0;
        Map<String, Integer> face = new TreeMap<>(Twin.face());
        for (int round = 0; round < 10; round++) {
            for (String name : face.keySet()) {
                Twin twin = new Twin();
                fill(twin, round % 5);
                tryAll(twin, name, face.get(name), new Random(round));
                twin.countAll();
                if (twin.failed()) {
                    wrong++;
                    System.out.println(name + " at stage " + round % 5 + ":");
                    twin.print();
                }
            }
        }
        System.out.println("every call at all edges, " + wrong + " wrong");
        System.exit(wrong == 0 ? 0 : 1);
    }

    private static void tryAll(Twin twin, String name, int number, Random random) {
        int turns = number == 1 ? EDGES.length : 300;
        for (int t = 0; t < turns; t++) {
            long[] arguments = new long[number];
            for (int a = 0; a < number; a++) {
                boolean near = number > 1 && random.nextInt(3) > 0;
                arguments[a] = near ? random.nextInt(6) - 1 : number == 1 ? EDGES[t] : EDGES[random.nextInt(EDGES.length)];
            }
            if (name.equals("truth")) arguments[0] = LONG_EDGES[random.nextInt(LONG_EDGES.length)];
            twin.call(name, arguments);
            if (t % 7 == 0) twin.call("feed", 0x01010201, 0x03010401, 0x05010601, 0, 0);
        }
    }

    /** 0 nothing, 1 one of each, 2 some, 3 all that there is room for, 4 that and a full tape. */
    private static void fill(Twin twin, int stage) {
        if (stage == 0) return;
        int each = stage == 1 ? 1 : stage == 2 ? 3 : 8;
        for (int i = 0; i < each; i++) {
            twin.call("author", 10 * i, i + 1);
            twin.call("work", i, 2 * i + 1);
            twin.call("writer", 100 * i);
        }
        for (int k = 0; k < each; k += 2) {
            for (int f = 0; f < 4; f++) twin.call("feed", 0x01010201, 0x03010401, 0x05010601, 0x01010301, 0x07010801);
            twin.call("left", k, stage == 3 ? 40 : 9);
        }
        int bits = stage == 1 ? 1 : stage == 2 ? 6 : 40;
        for (int i = 0; i < bits; i++) {
            twin.call("feed", 0x01020304 + (i << 16), 0x05060708, 0, 0, 0);
            twin.call("bit", i % each, i % (each + 1) - 1, i, i % 10, 1 + i % 8);
        }
        if (stage >= 2) twin.call("ahead", 1, each + 2);
        if (stage == 4) {
            for (int f = 0; f < 10; f++) twin.call("feed", -1, 0, 1, f, 0x703128);
        }
    }
}
