import java.util.ArrayList;
import java.util.List;

/** Orders, each ahead of a SLOT: an object can be had as it is behind any number of SLOTS, as often as is asked. */
final class Story {
    private final List<Integer> slots = new ArrayList<>();
    private final List<Checks.Calls> orders = new ArrayList<>();

    /** The slots are told rising. */
    Story when(int slot, Checks.Calls order) {
        slots.add(slot);
        orders.add(order);
        return this;
    }

    /** A new object behind that many SLOTS; orders ahead of the SLOT to come are not told yet. */
    HeadsetBands at(int many) {
        HeadsetBands x = new HeadsetBands();
        int slot = 0;
        for (int i = 0; i < orders.size() && slots.get(i) < many; i++) {
            pass(x, slots.get(i) - slot);
            slot = slots.get(i);
            orders.get(i).on(x);
        }
        pass(x, many - slot);
        return x;
    }

    static void pass(HeadsetBands x, int many) {
        for (int left = many; left > 0; left -= 400) {
            x.run(Math.min(400, left));
        }
    }
}
