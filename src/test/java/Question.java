import java.util.ArrayList;
import java.util.List;
import java.util.function.ToIntFunction;

/** A call, mostly one that only asks. */
record Question(String name, ToIntFunction<Run> ask) {
    /** All there is to ask of such an object, each index from 0 to one behind the last. */
    static List<Question> all(Run x, boolean withFault) {
        List<Question> all = new ArrayList<>();
        int[] sizes = new int[6];
        for (int what = 0; what < 6; what++) {
            int w = what;
            sizes[w] = x.told(w);
            all.add(new Question("told " + w, r -> r.told(w)));
        }
        all.add(new Question("cost", Run::cost));
        if (withFault) {
            all.add(new Question("fault", Run::fault));
        }
        addRow(all, "at ", sizes[0], (r, i) -> r.at(i));
        addRow(all, "map ", sizes[1], (r, i) -> r.map(i));
        addRow(all, "place ", sizes[0], (r, i) -> r.place(i));
        addRow(all, "symbol ", sizes[2], (r, i) -> r.symbol(i));
        addRow(all, "bit ", sizes[5], (r, i) -> r.bit(i));
        for (int round = 1; round <= 4; round++) {
            int n = round;
            addRow(all, "taken " + n + " ", sizes[3], (r, i) -> r.taken(n, i));
        }
        for (int table = 0; table <= sizes[4]; table++) {
            int t = table;
            addRow(all, "code " + t + " ", sizes[1] + 2, (r, i) -> r.code(t, i));
            for (int round = 0; round <= 4; round += 2) {
                int n = round;
                addRow(all, "length " + n + " " + t + " ", sizes[1] + 2, (r, i) -> r.length(n, t, i));
            }
        }
        return all;
    }

    interface Asked {
        int of(Run x, int i);
    }

    private static void addRow(List<Question> all, String name, int size, Asked asked) {
        for (int i = 0; i <= size; i++) {
            int k = i;
            all.add(new Question(name + k, r -> asked.of(r, k)));
        }
    }
}
