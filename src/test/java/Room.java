import com.sun.management.ThreadMXBean;
import java.lang.management.ManagementFactory;

/** All calls of a run share one room: what is made is made with the object, and calls make nothing. */
public final class Room {
    private static final ThreadMXBean THREADS = (ThreadMXBean) ManagementFactory.getThreadMXBean();

    private static long made() {
        return THREADS.getThreadAllocatedBytes(Thread.currentThread().getId());
    }

    public static void main(String[] args) {
        askAll(filled());
        made();
        long start = made();
        long asking = made() - start;
        start = made();
        new QuotedBooks();
        long object = made() - start;
        Desk d = filled();
        start = made();
        for (int turn = 0; turn < 13; turn++) askAll(d);
        long calls = made() - start - asking;
        System.out.println("an object takes " + object + " bytes, its calls " + calls);
        System.exit(object > 200000 || calls > 0 ? 1 : 0);
    }

    private static Desk filled() {
        Desk d = Desk.with(2, 3);
        d.left(0, 10, 20, 30, 40, 50, 60);
        for (int i = 0; i < 9; i++) d.bit(i % 3, 0, i, i, 10, 21, 30);
        d.plan("p[b+c]*3-[s*t](!(b>c)|s=t);p0-5(0=0)");
        d.habit("hn(w>0)");
        d.table("g1+b(0=0)");
        return d;
    }

    private static long askAll(Desk d) {
        QuotedBooks x = d.x;
        long sum = x.feed(0x64352830, 0x3D302900, 0, 0, 0) + x.way(0, 7) + x.feed(1, 2, 3, 4, 5) + x.check(0, 3);
        sum += x.quote(0, 0, 1, 3, 4) + x.bitIs(0, 10) + x.apart(0, 1) + x.near(0, 0, 0) + x.nearness(0, 2);
        sum += x.same(0, 4) + x.stood(0, 1, -1) + x.slips(0, 0, 0) + x.slip(0, 0, 1) + x.shared(0, 1, 0, 4);
        sum += x.groups(0, 500) + x.from(1, 0, 0) + x.there(0) + x.order(0, -1) + x.orders(0) + x.sure(0, 1);
        sum += x.truth(62, 9, 0) + x.length(0, 20, 1) + x.span(0, 20, 1) + x.nobody(0, 40) + x.whose(0, 1);
        sum += x.men(0, 0) + x.given(0, 9) + x.wrong(9) + x.moves(0) + x.count(3);
        return sum + (x.gives(0, 1, 5) ? 1 : 0) + (x.ahead(0, 1) ? 1 : 0) + (x.seed(5) ? 1 : 0);
    }
}
