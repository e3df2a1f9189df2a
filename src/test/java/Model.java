import java.util.ArrayList;
import java.util.Collections;
import java.util.Comparator;
import java.util.List;
import java.util.TreeSet;

/** The document once more, word by word and slow: lists, texts of bits, and all found anew. */
final class Model {
    private static final int NONE = -1, OUTSIDE = -2, STATE = -3, ROOM = -4;

    private final List<Integer> block = new ArrayList<>();
    private String tape = "";
    private int fault = NONE;

    /** What follows from THE BLOCK; null as soon as that changes. */
    private View view = null;

    private static final class View {
        List<Integer> map;
        List<Integer> places = new ArrayList<>();
        List<Integer> symbols = new ArrayList<>();
        List<List<Integer>> groups = new ArrayList<>();
        int tables = 0;
        int kinds;
        List<List<Integer>> taken = new ArrayList<>();
        List<List<int[]>> lengths = new ArrayList<>();
        List<String[]> codes = new ArrayList<>();
    }

    private static final class Fault extends RuntimeException {
        private static final long serialVersionUID = 1L;
        final int number;

        Fault(int number) {
            this.number = number;
        }
    }

    private static final class Node {
        final int weight;
        final int number;
        final List<Integer> parts = new ArrayList<>();

        Node(int weight, int number) {
            this.weight = weight;
            this.number = number;
        }
    }

    private View view() {
        if (view == null) {
            view = look(block);
        }
        return view;
    }

    private static View look(List<Integer> block) {
        View v = new View();
        v.map = new ArrayList<>(new TreeSet<>(block));
        v.kinds = v.map.size() + 2;
        if (block.isEmpty()) {
            return v;
        }
        List<Integer> list = new ArrayList<>(v.map);
        for (Integer sign : block) {
            v.places.add(list.indexOf(sign));
            list.remove(sign);
            list.add(0, sign);
        }
        tellSymbols(v);
        for (int i = 0; i < v.symbols.size(); i += 10) {
            v.groups.add(v.symbols.subList(i, Math.min(i + 10, v.symbols.size())));
        }
        v.tables = v.symbols.size() < 20 ? 1 : v.symbols.size() < 60 ? 2 : 3;
        v.lengths.add(firstLengths(v));
        v.taken.add(null);
        for (int round = 1; round <= 4; round++) {
            goRound(v, round);
        }
        for (int[] lengths : v.lengths.get(4)) {
            v.codes.add(codesOf(lengths));
        }
        return v;
    }

    private static void tellSymbols(View v) {
        int i = 0;
        while (i < v.places.size()) {
            if (v.places.get(i) != 0) {
                v.symbols.add(v.places.get(i) + 1);
                i++;
                continue;
            }
            int row = 0;
            while (i < v.places.size() && v.places.get(i) == 0) {
                row++;
                i++;
            }
            // r + 1 in binary, less its highest bit, from the lowest on
            String digits = new StringBuilder(Integer.toBinaryString(row + 1).substring(1)).reverse().toString();
            for (char c : digits.toCharArray()) {
                v.symbols.add(c - '0');
            }
        }
        v.symbols.add(v.map.size() + 1);
    }

    private static List<int[]> firstLengths(View v) {
        List<int[]> rows = new ArrayList<>();
        List<Integer> left = new ArrayList<>();
        for (int kind = 0; kind < v.kinds; kind++) {
            left.add(kind);
        }
        for (int table = 0; table < v.tables; table++) {
            int all = 0;
            for (int kind : left) {
                all += Collections.frequency(v.symbols, kind);
            }
            int should = all / (v.tables - table);
            int[] row = new int[v.kinds];
            java.util.Arrays.fill(row, 9);
            int came = 0;
            while (came < should && !left.isEmpty()) {
                int kind = left.remove(0);
                came += Collections.frequency(v.symbols, kind);
                row[kind] = 1;
            }
            rows.add(row);
        }
        return rows;
    }

    private static void goRound(View v, int round) {
        List<Integer> taken = new ArrayList<>();
        for (List<Integer> group : v.groups) {
            List<Integer> sums = new ArrayList<>();
            for (int[] row : v.lengths.get(round - 1)) {
                int sum = 0;
                for (int symbol : group) {
                    sum += row[symbol];
                }
                sums.add(sum);
            }
            taken.add(sums.indexOf(Collections.min(sums)));
        }
        v.taken.add(taken);
        List<int[]> rows = new ArrayList<>();
        for (int table = 0; table < v.tables; table++) {
            List<Integer> mine = new ArrayList<>();
            for (int group = 0; group < v.groups.size(); group++) {
                if (taken.get(group) == table) {
                    mine.addAll(v.groups.get(group));
                }
            }
            rows.add(joined(mine, v.kinds));
        }
        v.lengths.add(rows);
    }

    private static int[] joined(List<Integer> symbols, int kinds) {
        List<Node> nodes = new ArrayList<>();
        for (int kind = 0; kind < kinds; kind++) {
            Node node = new Node(Math.max(1, Collections.frequency(symbols, kind)), kind);
            node.parts.add(kind);
            nodes.add(node);
        }
        int[] lengths = new int[kinds];
        Comparator<Node> order = Comparator.<Node>comparingInt(n -> n.weight).thenComparingInt(n -> n.number);
        for (int number = kinds; nodes.size() > 1; number++) {
            nodes.sort(order);
            Node one = nodes.remove(0);
            Node other = nodes.remove(0);
            Node both = new Node(one.weight + other.weight, number);
            both.parts.addAll(one.parts);
            both.parts.addAll(other.parts);
            for (int kind : both.parts) {
                lengths[kind]++;
            }
            nodes.add(both);
        }
        return lengths;
    }

    private static String[] codesOf(int[] lengths) {
        List<Integer> order = new ArrayList<>();
        for (int kind = 0; kind < lengths.length; kind++) {
            order.add(kind);
        }
        order.sort(Comparator.<Integer>comparingInt(k -> lengths[k]).thenComparingInt(k -> k));
        String[] codes = new String[lengths.length];
        String last = null;
        for (int kind : order) {
            String code = last == null ? "" : inBits(Integer.parseInt(last, 2) + 1, last.length());
            while (code.length() < lengths[kind]) {
                code += "0";
            }
            codes[kind] = code;
            last = code;
        }
        return codes;
    }

    private static String inBits(int number, int width) {
        StringBuilder text = new StringBuilder(Integer.toBinaryString(number));
        while (text.length() < width) {
            text.insert(0, '0');
        }
        return text.toString();
    }

    private String written() {
        View v = view();
        StringBuilder first = new StringBuilder();
        StringBuilder others = new StringBuilder();
        for (int field = 0; field < 16; field++) {
            StringBuilder bits = new StringBuilder();
            for (int i = 0; i < 16; i++) {
                bits.append(v.map.contains(field * 16 + i) ? '1' : '0');
            }
            boolean has = bits.indexOf("1") >= 0;
            first.append(has ? '1' : '0');
            others.append(has ? bits : "");
        }
        StringBuilder text = new StringBuilder(first).append(others);
        text.append(inBits(v.tables, 2)).append(inBits(v.groups.size(), 5));
        List<Integer> order = new ArrayList<>();
        for (int table = 0; table < v.tables; table++) {
            order.add(table);
        }
        for (Integer table : v.taken.get(4)) {
            text.append("1".repeat(order.indexOf(table))).append('0');
            order.remove(table);
            order.add(0, table);
        }
        for (int[] lengths : v.lengths.get(4)) {
            int last = lengths[0];
            text.append(inBits(last, 5));
            for (int length : lengths) {
                text.append("10".repeat(Math.max(0, length - last)));
                text.append("11".repeat(Math.max(0, last - length))).append('0');
                last = length;
            }
        }
        for (int i = 0; i < v.symbols.size(); i++) {
            text.append(v.codes.get(v.taken.get(4).get(i / 10))[v.symbols.get(i)]);
        }
        return text.toString();
    }

    int sign(int v) {
        if (v < 0 || v > 255) {
            return OUTSIDE;
        }
        if (block.size() == 300) {
            return ROOM;
        }
        block.add(v);
        view = null;
        return block.size();
    }

    int empty() {
        int had = block.size();
        block.clear();
        view = null;
        return had;
    }

    int told(int what) {
        View v = view();
        int[] all = {block.size(), v.map.size(), v.symbols.size(), v.groups.size(), v.tables, tape.length()};
        return what < 0 || what > 5 ? OUTSIDE : all[what];
    }

    private static int get(List<Integer> row, int i) {
        return i < 0 || i >= row.size() ? NONE : row.get(i);
    }

    int at(int i) {
        return get(block, i);
    }

    int map(int i) {
        return get(view().map, i);
    }

    int place(int i) {
        return get(view().places, i);
    }

    int symbol(int i) {
        return get(view().symbols, i);
    }

    int taken(int round, int group) {
        if (round < 1 || round > 4) {
            return OUTSIDE;
        }
        return block.isEmpty() ? NONE : get(view().taken.get(round), group);
    }

    int length(int round, int table, int kind) {
        if (round < 0 || round > 4) {
            return OUTSIDE;
        }
        View v = view();
        boolean is = table >= 0 && table < v.tables && kind >= 0 && kind < v.kinds;
        return is ? v.lengths.get(round).get(table)[kind] : NONE;
    }

    int code(int table, int kind) {
        View v = view();
        boolean is = table >= 0 && table < v.tables && kind >= 0 && kind < v.kinds;
        return is ? Integer.parseInt(v.codes.get(table)[kind], 2) : NONE;
    }

    int cost() {
        return block.isEmpty() ? STATE : written().length();
    }

    int write() {
        if (block.isEmpty()) {
            return STATE;
        }
        String text = written();
        if (text.length() > 1500) {
            return ROOM;
        }
        tape = text;
        return tape.length();
    }

    int more(boolean bit) {
        if (tape.length() == 1500) {
            return ROOM;
        }
        tape += bit ? "1" : "0";
        return tape.length();
    }

    int cut(int n) {
        if (n < 0 || n > tape.length()) {
            return OUTSIDE;
        }
        int went = tape.length() - n;
        tape = tape.substring(0, n);
        return went;
    }

    int flip(int i) {
        if (i < 0 || i >= tape.length()) {
            return NONE;
        }
        char turned = tape.charAt(i) == '0' ? '1' : '0';
        tape = tape.substring(0, i) + turned + tape.substring(i + 1);
        return turned - '0';
    }

    int bit(int i) {
        return i < 0 || i >= tape.length() ? NONE : tape.charAt(i) - '0';
    }

    int fault() {
        return fault;
    }

    int read() {
        position = 0;
        try {
            List<Integer> signs = readAll();
            block.clear();
            block.addAll(signs);
            view = null;
            fault = NONE;
            return block.size();
        } catch (Fault met) {
            fault = position;
            return -10 - met.number;
        }
    }

    private int position = 0;

    private char next() {
        if (position == tape.length()) {
            throw new Fault(1);
        }
        position++;
        return tape.charAt(position - 1);
    }

    private String next(int many) {
        StringBuilder text = new StringBuilder();
        for (int i = 0; i < many; i++) {
            text.append(next());
        }
        return text.toString();
    }

    private String nextField() {
        String text = next(16);
        if (!text.contains("1")) {
            throw new Fault(2);
        }
        return text;
    }

    private List<Integer> readAll() {
        List<Integer> list = new ArrayList<>();
        String fields = nextField();
        for (int field = 0; field < 16; field++) {
            String marks = fields.charAt(field) == '1' ? nextField() : "";
            for (int i = 0; i < marks.length(); i++) {
                if (marks.charAt(i) == '1') {
                    list.add(field * 16 + i);
                }
            }
        }
        int tables = Integer.parseInt(next(2), 2);
        int groups = Integer.parseInt(next(5), 2);
        if (tables == 0 || groups == 0) {
            throw new Fault(3);
        }
        List<Integer> taken = readTaken(tables, groups);
        List<String[]> codes = new ArrayList<>();
        for (int table = 0; table < tables; table++) {
            codes.add(readCodes(list.size() + 2));
        }
        return readSigns(list, taken, codes);
    }

    private List<Integer> readTaken(int tables, int groups) {
        List<Integer> order = new ArrayList<>();
        for (int table = 0; table < tables; table++) {
            order.add(table);
        }
        List<Integer> taken = new ArrayList<>();
        while (taken.size() < groups) {
            int found = 0;
            while (next() == '1') {
                found++;
                if (found == tables) {
                    throw new Fault(4);
                }
            }
            Integer table = order.remove(found);
            order.add(0, table);
            taken.add(table);
        }
        return taken;
    }

    private String[] readCodes(int kinds) {
        int[] lengths = new int[kinds];
        int length = checked(Integer.parseInt(next(5), 2));
        double filled = 0;
        for (int kind = 0; kind < kinds; kind++) {
            while (next() == '1') {
                length = checked(next() == '0' ? length + 1 : length - 1);
            }
            lengths[kind] = length;
            filled += Math.pow(2, -length);
        }
        if (filled > 1) {
            throw new Fault(6);
        }
        return codesOf(lengths);
    }

    private static int checked(int length) {
        if (length < 1 || length > 20) {
            throw new Fault(5);
        }
        return length;
    }

    private List<Integer> readSigns(List<Integer> list, List<Integer> taken, List<String[]> codes) {
        List<Integer> signs = new ArrayList<>();
        int end = list.size() + 1;
        int row = 0;
        for (int read = 0; ; read++) {
            if (read == taken.size() * 10) {
                throw new Fault(9);
            }
            int symbol = readSymbol(codes.get(taken.get(read / 10)));
            if (symbol == end) {
                if (signs.isEmpty()) {
                    throw new Fault(9);
                }
                if ((taken.size() - 1) * 10 > read || position < tape.length()) {
                    throw new Fault(10);
                }
                return signs;
            }
            int many = symbol > 1 ? 1 : symbol == 0 ? 1 << row : 2 << row;
            row = symbol > 1 ? 0 : row + 1;
            Integer sign = list.remove(symbol > 1 ? symbol - 1 : 0);
            list.add(0, sign);
            signs.addAll(Collections.nCopies(many, sign));
            if (signs.size() > 300) {
                throw new Fault(8);
            }
        }
    }

    private int readSymbol(String[] codes) {
        String bits = "";
        while (true) {
            bits += next();
            boolean begins = false;
            for (int kind = 0; kind < codes.length; kind++) {
                if (codes[kind].equals(bits)) {
                    return kind;
                }
                begins |= codes[kind].startsWith(bits);
            }
            if (!begins) {
                throw new Fault(7);
            }
        }
    }
}
