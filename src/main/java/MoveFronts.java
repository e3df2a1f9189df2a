/**
 * What a packer does behind its sort: signs told by their places in a list whose front moves, rows
 * of zeros told in two signs, codes of several tables that groups choose in rounds, all of it as
 * bits; and the way back, with the first thing that can't be.
 */
public final class MoveFronts {
    public static final int NONE = -1, OUTSIDE = -2, STATE = -3, ROOM = -4;

    private static final int SIGN_VALUES = 256;
    private static final int MOST_SIGNS = 300;
    private static final int MOST_SYMBOLS = MOST_SIGNS + 1;
    private static final int MOST_KINDS = SIGN_VALUES + 2;
    private static final int GROUP_SIZE = 10;
    private static final int MOST_GROUPS = 31;
    private static final int MOST_TABLES = 3;
    private static final int LAST_ROUND = 4;
    private static final int LONGEST = 20;
    private static final int MOST_BITS = 1500;

    /** How many SIGNS share one field of (a), and how many such fields there are. */
    private static final int FIELD = 16;
    private static final int TABLES_WIDTH = 2;
    private static final int GROUPS_WIDTH = 5;
    private static final int LENGTH_WIDTH = 5;

    private final Row block;
    private final Row tape;
    private final Telling telling;
    private final Rounds rounds;
    private final Writer writer;
    private final Reader reader;
    private boolean symbolsKnown;
    private boolean roundsKnown;

    public MoveFronts() {
        block = new Row(MOST_SIGNS);
        tape = new Row(MOST_BITS);
        telling = new Telling(block);
        rounds = new Rounds(telling.symbols);
        writer = new Writer(telling, rounds, tape);
        reader = new Reader(tape);
        symbolsKnown = false;
        roundsKnown = false;
    }

    public int sign(int v) {
        if (v < 0 || v >= SIGN_VALUES) {
            return OUTSIDE;
        }
        if (block.isFull()) {
            return ROOM;
        }
        block.add(v);
        forgetTelling();
        return block.size();
    }

    public int empty() {
        int had = block.size();
        block.clear();
        forgetTelling();
        return had;
    }

    public int told(int what) {
        switch (what) {
            case 0:
                return block.size();
            case 1:
                findSymbols();
                return telling.map.size();
            case 2:
                findSymbols();
                return telling.symbols.size();
            case 3:
                findSymbols();
                return groupsFor(telling.symbols.size());
            case 4:
                findSymbols();
                return tablesFor(telling.symbols.size());
            case 5:
                return tape.size();
            default:
                return OUTSIDE;
        }
    }

    public int at(int i) {
        return block.get(i);
    }

    public int map(int i) {
        findSymbols();
        return telling.map.get(i);
    }

    public int place(int i) {
        findSymbols();
        return telling.places.get(i);
    }

    public int symbol(int i) {
        findSymbols();
        return telling.symbols.get(i);
    }

    public int taken(int round, int group) {
        if (round < 1 || round > LAST_ROUND) {
            return OUTSIDE;
        }
        findRounds();
        return rounds.tableOf(round, group);
    }

    public int length(int round, int table, int kind) {
        if (round < 0 || round > LAST_ROUND) {
            return OUTSIDE;
        }
        findRounds();
        return rounds.lengthOf(round, table, kind);
    }

    public int code(int table, int kind) {
        findRounds();
        return rounds.codeOf(table, kind);
    }

    public int cost() {
        if (block.size() == 0) {
            return STATE;
        }
        findRounds();
        return writer.countBits();
    }

    // ---- the tape

    public int write() {
        if (block.size() == 0) {
            return STATE;
        }
        findRounds();
        if (writer.countBits() > MOST_BITS) {
            return ROOM;
        }
        return writer.fillTape();
    }

    public int more(boolean bit) {
        if (tape.isFull()) {
            return ROOM;
        }
        tape.add(bit ? 1 : 0);
        return tape.size();
    }

    public int cut(int n) {
        int had = tape.size();
        if (n < 0 || n > had) {
            return OUTSIDE;
        }
        tape.keepFirst(n);
        return had - n;
    }

    public int flip(int i) {
        int old = tape.get(i);
        if (old == NONE) {
            return NONE;
        }
        tape.set(i, 1 - old);
        return 1 - old;
    }

    public int bit(int i) {
        return tape.get(i);
    }

    public int read() {
        if (!reader.readTape()) {
            return -10 - reader.faultNumber;
        }
        block.copyFrom(reader.signs);
        forgetTelling();
        return block.size();
    }

    public int fault() {
        return reader.faultPosition;
    }

    private void forgetTelling() {
        symbolsKnown = false;
        roundsKnown = false;
    }

    private void findSymbols() {
        if (!symbolsKnown) {
            telling.tell();
            symbolsKnown = true;
        }
    }

    private void findRounds() {
        findSymbols();
        if (!roundsKnown) {
            rounds.build(telling.map.size() + 2);
            roundsKnown = true;
        }
    }

    private static int groupsFor(int symbols) {
        return (symbols + GROUP_SIZE - 1) / GROUP_SIZE;
    }

    private static int tablesFor(int symbols) {
        if (symbols == 0) {
            return 0;
        }
        if (symbols < 20) {
            return 1;
        }
        return symbols < 60 ? 2 : 3;
    }

    private static boolean isLength(int length) {
        return length >= 1 && length <= LONGEST;
    }

    /** Numbers from 0 on in a row of limited room; no index can leave it. */
    private static final class Row {
        private final int[] values;
        private int count;

        Row(int most) {
            values = new int[most < 0 ? 0 : most];
            count = 0;
        }

        int size() {
            return count;
        }

        boolean isFull() {
            return count >= values.length;
        }

        int get(int i) {
            return i < 0 || i >= count ? NONE : values[i];
        }

        void set(int i, int value) {
            if (i >= 0 && i < count) {
                values[i] = value;
            }
        }

        void add(int value) {
            if (count < values.length) {
                values[count] = value;
                count++;
            }
        }

        void keepFirst(int n) {
            if (n >= 0 && n < count) {
                count = n;
            }
        }

        void clear() {
            count = 0;
        }

        void copyFrom(Row other) {
            clear();
            for (int i = 0; i < other.count; i++) {
                add(other.get(i));
            }
        }
    }

    /** A list in which what is told comes to the front: THE LIST, and that of TABLES in (c). */
    private static final class Front {
        private final int[] list;
        private int count;

        Front(int most) {
            list = new int[most < 0 ? 0 : most];
            count = 0;
        }

        int size() {
            return count;
        }

        void clear() {
            count = 0;
        }

        void add(int value) {
            if (count < list.length) {
                list[count] = value;
                count++;
            }
        }

        /** 0, 1, and so on, in order. */
        void restart(int many) {
            clear();
            for (int i = 0; i < many; i++) {
                add(i);
            }
        }

        int find(int value) {
            for (int i = 0; i < count; i++) {
                if (list[i] == value) {
                    return i;
                }
            }
            return NONE;
        }

        /** Answers what stood at the place, now at the front. */
        int bringUp(int from) {
            if (from < 0 || from >= count) {
                return NONE;
            }
            int value = list[from];
            for (int i = from; i > 0; i--) {
                list[i] = list[i - 1];
            }
            list[0] = value;
            return value;
        }
    }

    /** THE MAP, the PLACES and the SYMBOLS of THE BLOCK. */
    private static final class Telling {
        private final Row block;
        private final Row map;
        private final Row places;
        private final Row symbols;
        private final Front list;
        private final boolean[] present;

        Telling(Row block) {
            this.block = block;
            map = new Row(SIGN_VALUES);
            places = new Row(MOST_SIGNS);
            symbols = new Row(MOST_SYMBOLS);
            list = new Front(SIGN_VALUES);
            present = new boolean[SIGN_VALUES];
        }

        void tell() {
            tellMap();
            tellPlaces();
            tellSymbols();
        }

        boolean has(int value) {
            return value >= 0 && value < SIGN_VALUES && present[value];
        }

        private void tellMap() {
            map.clear();
            list.clear();
            for (int value = 0; value < SIGN_VALUES; value++) {
                present[value] = false;
            }
            for (int i = 0; i < block.size(); i++) {
                mark(block.get(i));
            }
            for (int value = 0; value < SIGN_VALUES; value++) {
                if (present[value]) {
                    map.add(value);
                    list.add(value);
                }
            }
        }

        private void mark(int value) {
            if (value >= 0 && value < SIGN_VALUES) {
                present[value] = true;
            }
        }

        private void tellPlaces() {
            places.clear();
            for (int i = 0; i < block.size(); i++) {
                int found = list.find(block.get(i));
                list.bringUp(found);
                places.add(found);
            }
        }

        private void tellSymbols() {
            symbols.clear();
            if (places.size() == 0) {
                return;
            }
            int zeros = 0;
            for (int i = 0; i < places.size(); i++) {
                int found = places.get(i);
                if (found == 0) {
                    zeros++;
                } else {
                    tellZeros(zeros);
                    zeros = 0;
                    symbols.add(found + 1);
                }
            }
            tellZeros(zeros);
            symbols.add(map.size() + 1);
        }

        /** Digits that count 1 and 2 times a power of two: every row of zeros has just one form. */
        private void tellZeros(int zeros) {
            for (int left = zeros; left > 0; left = (left - 1) / 2) {
                symbols.add((left - 1) % 2);
            }
        }
    }

    /** The TABLES of THE BLOCK, and which of them its GROUPS take, ROUND by ROUND. */
    private static final class Rounds {
        private static final int OWN_LENGTH = 1;
        private static final int OTHER_LENGTH = 9;

        private final Row symbols;
        private final int[][] tableOfGroup;
        private final int[][] lengths;
        private final int[] weights;
        private final Joiner joiner;
        private final Codes[] codes;
        private int kinds;
        private int groups;
        private int tables;

        Rounds(Row symbols) {
            this.symbols = symbols;
            tableOfGroup = new int[LAST_ROUND + 1][MOST_GROUPS];
            lengths = new int[(LAST_ROUND + 1) * MOST_TABLES][MOST_KINDS];
            weights = new int[MOST_KINDS];
            joiner = new Joiner();
            codes = new Codes[MOST_TABLES];
            for (int table = 0; table < MOST_TABLES; table++) {
                codes[table] = new Codes(lengths[LAST_ROUND * MOST_TABLES + table]);
            }
            kinds = 0;
            groups = 0;
            tables = 0;
        }

        void build(int kindCount) {
            kinds = Math.min(kindCount, MOST_KINDS);
            groups = Math.min(groupsFor(symbols.size()), MOST_GROUPS);
            tables = tablesFor(symbols.size());
            shareKinds();
            for (int round = 1; round <= LAST_ROUND; round++) {
                chooseTables(round);
                for (int table = 0; table < tables; table++) {
                    weigh(round, table);
                    joiner.makeLengths(weights, kinds, lengthsBehind(round, table));
                }
            }
            for (int table = 0; table < tables; table++) {
                codes[table].settle(kinds);
            }
        }

        int tableOf(int round, int group) {
            if (round < 1 || round > LAST_ROUND || group < 0 || group >= groups) {
                return NONE;
            }
            return tableOfGroup[round][group];
        }

        int lengthOf(int round, int table, int kind) {
            if (round < 0 || round > LAST_ROUND || !hasKind(table, kind)) {
                return NONE;
            }
            return lengthsBehind(round, table)[kind];
        }

        int codeOf(int table, int kind) {
            return hasKind(table, kind) ? codes[table].codeOf(kind) : NONE;
        }

        private boolean hasKind(int table, int kind) {
            return table >= 0 && table < tables && kind >= 0 && kind < kinds;
        }

        private int[] lengthsBehind(int round, int table) {
            return lengths[round * MOST_TABLES + table];
        }

        /** ROUND 0. A TABLE whose share is cut off to 0 gets no KINDS, and its turn is over too. */
        private void shareKinds() {
            weighAll();
            int left = symbols.size();
            int next = 0;
            for (int table = 0; table < tables; table++) {
                int share = left / (tables - table);
                int first = next;
                int has = 0;
                while (next < kinds && has < share) {
                    has += weights[next];
                    next++;
                }
                startLengths(lengthsBehind(0, table), first, next);
                left -= has;
            }
        }

        private void startLengths(int[] row, int first, int end) {
            for (int kind = 0; kind < kinds; kind++) {
                row[kind] = kind >= first && kind < end ? OWN_LENGTH : OTHER_LENGTH;
            }
        }

        private void chooseTables(int round) {
            for (int group = 0; group < groups; group++) {
                int best = 0;
                int least = bitsOfGroup(group, lengthsBehind(round - 1, 0));
                for (int table = 1; table < tables; table++) {
                    int bits = bitsOfGroup(group, lengthsBehind(round - 1, table));
                    if (bits < least) {
                        best = table;
                        least = bits;
                    }
                }
                tableOfGroup[round][group] = best;
            }
        }

        private int bitsOfGroup(int group, int[] row) {
            int end = Math.min((group + 1) * GROUP_SIZE, symbols.size());
            int bits = 0;
            for (int i = group * GROUP_SIZE; i < end; i++) {
                int kind = symbols.get(i);
                if (kind >= 0 && kind < kinds) {
                    bits += row[kind];
                }
            }
            return bits;
        }

        private void weigh(int round, int table) {
            clearWeights();
            for (int group = 0; group < groups; group++) {
                if (tableOfGroup[round][group] == table) {
                    weighSymbols(group * GROUP_SIZE, (group + 1) * GROUP_SIZE);
                }
            }
            for (int kind = 0; kind < kinds; kind++) {
                weights[kind] = Math.max(1, weights[kind]);
            }
        }

        private void weighAll() {
            clearWeights();
            weighSymbols(0, symbols.size());
        }

        private void clearWeights() {
            for (int kind = 0; kind < kinds; kind++) {
                weights[kind] = 0;
            }
        }

        private void weighSymbols(int from, int to) {
            int end = Math.min(to, symbols.size());
            for (int i = from; i < end; i++) {
                int kind = symbols.get(i);
                if (kind >= 0 && kind < kinds) {
                    weights[kind]++;
                }
            }
        }
    }

    /**
     * LENGTHS by joining the two lightest again and again. Joined ones come in the order of their
     * weights by themselves, so that behind one sort of the KINDS the lightest of all is always the
     * first KIND left or the first joined one left; of equal ones the KIND has the lesser number.
     */
    private static final class Joiner {
        private static final int MOST_NODES = 2 * MOST_KINDS;

        private final int[] weights;
        private final int[] parents;
        private final int[] depths;
        private final int[] sorted;
        private final int[] starts;
        private int kinds;
        private int nextKind;
        private int nextJoined;
        private int nodes;

        Joiner() {
            weights = new int[MOST_NODES];
            parents = new int[MOST_NODES];
            depths = new int[MOST_NODES];
            sorted = new int[MOST_KINDS];
            starts = new int[MOST_SYMBOLS + 2];
            kinds = 0;
            nextKind = 0;
            nextJoined = 0;
            nodes = 0;
        }

        void makeLengths(int[] kindWeights, int kindCount, int[] lengths) {
            kinds = Math.min(kindCount, MOST_KINDS);
            for (int kind = 0; kind < kinds; kind++) {
                weights[kind] = Math.max(0, Math.min(kindWeights[kind], MOST_SYMBOLS));
            }
            sortKinds();
            joinAll();
            findDepths();
            for (int kind = 0; kind < kinds; kind++) {
                lengths[kind] = depths[kind];
            }
        }

        /** By weight, then by number: counted, as no weight is above the number of SYMBOLS. */
        private void sortKinds() {
            for (int weight = 0; weight < starts.length; weight++) {
                starts[weight] = 0;
            }
            for (int kind = 0; kind < kinds; kind++) {
                starts[weights[kind] + 1]++;
            }
            for (int weight = 1; weight < starts.length; weight++) {
                starts[weight] += starts[weight - 1];
            }
            for (int kind = 0; kind < kinds; kind++) {
                int weight = weights[kind];
                int slot = starts[weight];
                if (slot >= 0 && slot < kinds) {
                    sorted[slot] = kind;
                }
                starts[weight]++;
            }
        }

        private void joinAll() {
            nextKind = 0;
            nextJoined = kinds;
            nodes = kinds;
            for (int joins = 1; joins < kinds; joins++) {
                int one = takeLightest();
                int other = takeLightest();
                join(one, other);
            }
        }

        private void join(int one, int other) {
            if (isNode(one) && isNode(other) && nodes < MOST_NODES) {
                weights[nodes] = weights[one] + weights[other];
                parents[one] = nodes;
                parents[other] = nodes;
                nodes++;
            }
        }

        private boolean isNode(int node) {
            return node >= 0 && node < nodes;
        }

        /** NONE only if none is left, which no join meets: it takes two and leaves one. */
        private int takeLightest() {
            int kind = nextKind < kinds ? sorted[nextKind] : NONE;
            boolean joinedLeft = nextJoined < nodes;
            if (isNode(kind) && (!joinedLeft || weights[kind] <= weights[nextJoined])) {
                nextKind++;
                return kind;
            }
            if (joinedLeft) {
                nextJoined++;
                return nextJoined - 1;
            }
            return NONE;
        }

        /** From the last one down, as what a node became part of has the greater number. */
        private void findDepths() {
            for (int node = nodes - 1; node >= 0; node--) {
                depths[node] = 0;
                int parent = parents[node];
                if (parent > node && parent < nodes) {
                    depths[node] = depths[parent] + 1;
                }
            }
        }
    }

    /**
     * The CODES that a TABLE's LENGTHS (1 to 20 each) make. Written with 0s behind them up to the
     * longest, they stand side by side from 0 on; so the room they fill tells what can't begin one.
     */
    private static final class Codes {
        private final int[] lengths;
        private final int[] codes;
        private final int[] counts;
        private final int[] firsts;
        private final int[] nexts;
        private int kinds;
        private int filled;

        Codes(int[] lengths) {
            this.lengths = lengths;
            codes = new int[MOST_KINDS];
            counts = new int[LONGEST + 1];
            firsts = new int[LONGEST + 1];
            nexts = new int[LONGEST + 1];
            kinds = 0;
            filled = 0;
        }

        void setLength(int kind, int length) {
            if (kind >= 0 && kind < lengths.length && isLength(length)) {
                lengths[kind] = length;
            }
        }

        /** Answers false, and makes no CODES, if there are more than there can be. */
        boolean settle(int kindCount) {
            kinds = Math.min(kindCount, MOST_KINDS);
            countLengths();
            if (filled > 1 << LONGEST) {
                return false;
            }
            int first = 0;
            for (int length = 1; length <= LONGEST; length++) {
                firsts[length] = first;
                nexts[length] = first;
                first = (first + counts[length]) * 2;
            }
            for (int kind = 0; kind < kinds; kind++) {
                int length = lengths[kind];
                if (isLength(length)) {
                    codes[kind] = nexts[length];
                    nexts[length]++;
                }
            }
            return true;
        }

        private void countLengths() {
            filled = 0;
            for (int length = 0; length <= LONGEST; length++) {
                counts[length] = 0;
            }
            for (int kind = 0; kind < kinds; kind++) {
                int length = lengths[kind];
                if (isLength(length)) {
                    counts[length]++;
                    filled += 1 << (LONGEST - length);
                }
            }
        }

        int codeOf(int kind) {
            return kind < 0 || kind >= kinds ? NONE : codes[kind];
        }

        int kindOf(int code, int length) {
            if (!isLength(length)) {
                return NONE;
            }
            int rank = code - firsts[length];
            if (rank < 0 || rank >= counts[length]) {
                return NONE;
            }
            for (int kind = 0; kind < kinds; kind++) {
                if (lengths[kind] == length && codes[kind] == code) {
                    return kind;
                }
            }
            return NONE;
        }

        /** Asked behind each bit, so none of the shorter beginnings was a CODE. */
        boolean canBegin(int code, int length) {
            return length <= LONGEST && code << (LONGEST - length) < filled;
        }
    }

    /** THE BLOCK as bits, which are just counted or put on THE TAPE too. */
    private static final class Writer {
        private final Telling telling;
        private final Rounds rounds;
        private final Row tape;
        private final Front order;
        private boolean counting;
        private int bits;

        Writer(Telling telling, Rounds rounds, Row tape) {
            this.telling = telling;
            this.rounds = rounds;
            this.tape = tape;
            order = new Front(MOST_TABLES);
            counting = true;
            bits = 0;
        }

        int countBits() {
            counting = true;
            return putAll();
        }

        int fillTape() {
            counting = false;
            tape.clear();
            return putAll();
        }

        private int putAll() {
            bits = 0;
            putMap();
            putNumber(rounds.tables, TABLES_WIDTH);
            putNumber(rounds.groups, GROUPS_WIDTH);
            putChoices();
            for (int table = 0; table < rounds.tables; table++) {
                putLengths(table);
            }
            putSymbols();
            return bits;
        }

        private void put(int value) {
            bits++;
            if (!counting) {
                tape.add(value);
            }
        }

        private void putNumber(int number, int width) {
            for (int shift = width - 1; shift >= 0; shift--) {
                put(number >> shift & 1);
            }
        }

        private void putMap() {
            for (int field = 0; field < FIELD; field++) {
                put(fieldOf(field) == 0 ? 0 : 1);
            }
            for (int field = 0; field < FIELD; field++) {
                int marks = fieldOf(field);
                if (marks != 0) {
                    putNumber(marks, FIELD);
                }
            }
        }

        private int fieldOf(int field) {
            int marks = 0;
            for (int i = 0; i < FIELD; i++) {
                marks = marks * 2 + (telling.has(field * FIELD + i) ? 1 : 0);
            }
            return marks;
        }

        private void putChoices() {
            order.restart(rounds.tables);
            for (int group = 0; group < rounds.groups; group++) {
                int found = order.find(rounds.tableOf(LAST_ROUND, group));
                order.bringUp(found);
                for (int i = 0; i < found; i++) {
                    put(1);
                }
                put(0);
            }
        }

        private void putLengths(int table) {
            int last = rounds.lengthOf(LAST_ROUND, table, 0);
            putNumber(last, LENGTH_WIDTH);
            for (int kind = 0; kind < rounds.kinds; kind++) {
                int length = rounds.lengthOf(LAST_ROUND, table, kind);
                for (int i = last; i < length; i++) {
                    putNumber(2, 2);
                }
                for (int i = last; i > length; i--) {
                    putNumber(3, 2);
                }
                put(0);
                last = length;
            }
        }

        private void putSymbols() {
            for (int i = 0; i < telling.symbols.size(); i++) {
                int kind = telling.symbols.get(i);
                int table = rounds.tableOf(LAST_ROUND, i / GROUP_SIZE);
                putNumber(rounds.codeOf(table, kind), rounds.lengthOf(LAST_ROUND, table, kind));
            }
        }
    }

    /** What THE TAPE is read as, in rows of its own, so that THE BLOCK stays with a FAULT. */
    private static final class Reader {
        private static final int BITS_END = 1;
        private static final int NO_SIGN = 2;
        private static final int NO_TABLE_OR_GROUP = 3;
        private static final int NO_SUCH_PLACE = 4;
        private static final int WRONG_LENGTH = 5;
        private static final int TOO_MANY_CODES = 6;
        private static final int NO_SUCH_CODE = 7;
        private static final int TOO_MANY_SIGNS = 8;
        private static final int NO_GROUP_OR_SIGN_LEFT = 9;
        private static final int SOMETHING_LEFT = 10;

        private final Row tape;
        private final Row signs;
        private final Row choices;
        private final Front list;
        private final Front order;
        private final Codes[] codes;
        private int tables;
        private int groups;
        private int kinds;
        private int zeroPower;
        private int position;
        private int faultNumber;
        private int faultPosition;

        Reader(Row tape) {
            this.tape = tape;
            signs = new Row(MOST_SIGNS);
            choices = new Row(MOST_GROUPS);
            list = new Front(SIGN_VALUES);
            order = new Front(MOST_TABLES);
            codes = new Codes[MOST_TABLES];
            for (int table = 0; table < MOST_TABLES; table++) {
                codes[table] = new Codes(new int[MOST_KINDS]);
            }
            tables = 0;
            groups = 0;
            kinds = 0;
            zeroPower = 1;
            position = 0;
            faultNumber = 0;
            faultPosition = NONE;
        }

        /** Answers whether no FAULT was met. */
        boolean readTape() {
            position = 0;
            faultNumber = 0;
            faultPosition = NONE;
            return readMap() && readCounts() && readChoices() && readTables() && readSymbols();
        }

        private boolean fail(int number) {
            faultNumber = number;
            faultPosition = position;
            return false;
        }

        /** A bit, or NONE with the FAULT that they end. */
        private int nextBit() {
            int value = tape.get(position);
            if (value == NONE) {
                fail(BITS_END);
                return NONE;
            }
            position++;
            return value;
        }

        /** A number, or NONE with the FAULT that the bits end. */
        private int nextNumber(int width) {
            int number = 0;
            for (int i = 0; i < width; i++) {
                int value = nextBit();
                if (value == NONE) {
                    return NONE;
                }
                number = number * 2 + value;
            }
            return number;
        }

        private boolean readMap() {
            list.clear();
            int fields = nextNumber(FIELD);
            if (fields == NONE) {
                return false;
            }
            if (fields == 0) {
                return fail(NO_SIGN);
            }
            for (int field = 0; field < FIELD; field++) {
                if ((fields >> (FIELD - 1 - field) & 1) == 1 && !readField(field * FIELD)) {
                    return false;
                }
            }
            kinds = list.size() + 2;
            return true;
        }

        private boolean readField(int first) {
            int marks = nextNumber(FIELD);
            if (marks == NONE) {
                return false;
            }
            if (marks == 0) {
                return fail(NO_SIGN);
            }
            for (int i = 0; i < FIELD; i++) {
                if ((marks >> (FIELD - 1 - i) & 1) == 1) {
                    list.add(first + i);
                }
            }
            return true;
        }

        private boolean readCounts() {
            tables = nextNumber(TABLES_WIDTH);
            if (tables == NONE) {
                return false;
            }
            groups = nextNumber(GROUPS_WIDTH);
            if (groups == NONE) {
                return false;
            }
            return tables != 0 && groups != 0 || fail(NO_TABLE_OR_GROUP);
        }

        private boolean readChoices() {
            choices.clear();
            order.restart(tables);
            for (int group = 0; group < groups; group++) {
                int chosen = nextChoice();
                if (chosen == NONE) {
                    return false;
                }
                choices.add(order.bringUp(chosen));
            }
            return true;
        }

        /** A PLACE among the TABLES, or NONE with a FAULT. */
        private int nextChoice() {
            for (int ones = 0; ones < tables; ones++) {
                int value = nextBit();
                if (value == NONE) {
                    return NONE;
                }
                if (value == 0) {
                    return ones;
                }
            }
            fail(NO_SUCH_PLACE);
            return NONE;
        }

        private boolean readTables() {
            for (int table = 0; table < tables && table < MOST_TABLES; table++) {
                if (!readLengths(codes[table])) {
                    return false;
                }
                if (!codes[table].settle(kinds)) {
                    return fail(TOO_MANY_CODES);
                }
            }
            return true;
        }

        private boolean readLengths(Codes row) {
            int length = nextNumber(LENGTH_WIDTH);
            if (length == NONE) {
                return false;
            }
            if (!isLength(length)) {
                return fail(WRONG_LENGTH);
            }
            for (int kind = 0; kind < kinds; kind++) {
                length = nextLength(length);
                if (length == NONE) {
                    return false;
                }
                row.setLength(kind, length);
            }
            return true;
        }

        /** The LENGTH that is told from the last one on, or NONE with a FAULT. */
        private int nextLength(int last) {
            int length = last;
            for (int steps = 0; steps <= MOST_BITS; steps++) {
                int step = nextBit();
                if (step == 0) {
                    return length;
                }
                int less = step == NONE ? NONE : nextBit();
                if (less == NONE) {
                    return NONE;
                }
                length += less == 1 ? -1 : 1;
                if (!isLength(length)) {
                    fail(WRONG_LENGTH);
                    return NONE;
                }
            }
            // Never reached, as THE TAPE has ended by then.
            fail(BITS_END);
            return NONE;
        }

        private boolean readSymbols() {
            signs.clear();
            zeroPower = 1;
            for (int i = 0; i < groups * GROUP_SIZE; i++) {
                int kind = nextKind(choices.get(i / GROUP_SIZE));
                if (kind == NONE) {
                    return false;
                }
                if (kind == kinds - 1) {
                    return readEnd(i + 1);
                }
                if (!takeSymbol(kind)) {
                    return false;
                }
            }
            return fail(NO_GROUP_OR_SIGN_LEFT);
        }

        /** A SYMBOL by its CODE, or NONE with a FAULT. */
        private int nextKind(int table) {
            int code = 0;
            for (int length = 1; length <= LONGEST && table >= 0 && table < MOST_TABLES; length++) {
                int value = nextBit();
                if (value == NONE) {
                    return NONE;
                }
                code = code * 2 + value;
                int kind = codes[table].kindOf(code, length);
                if (kind != NONE) {
                    return kind;
                }
                if (!codes[table].canBegin(code, length)) {
                    break;
                }
            }
            fail(NO_SUCH_CODE);
            return NONE;
        }

        private boolean takeSymbol(int kind) {
            if (kind > 1) {
                zeroPower = 1;
                return takeSigns(list.bringUp(kind - 1), 1);
            }
            int many = zeroPower * (kind + 1);
            zeroPower *= 2;
            return takeSigns(list.bringUp(0), many);
        }

        private boolean takeSigns(int value, int many) {
            if (signs.size() + many > MOST_SIGNS) {
                return fail(TOO_MANY_SIGNS);
            }
            for (int i = 0; i < many; i++) {
                signs.add(value);
            }
            return true;
        }

        private boolean readEnd(int symbolsRead) {
            if (signs.size() == 0) {
                return fail(NO_GROUP_OR_SIGN_LEFT);
            }
            if (groupsFor(symbolsRead) < groups || position < tape.size()) {
                return fail(SOMETHING_LEFT);
            }
            return true;
        }
    }
}
