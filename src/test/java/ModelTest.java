import java.util.Random;

/** All promises against the Model, on runs of at most 512 calls from fixed seeds. */
public final class ModelTest {
    private static final int RUNS = 1000;
    private static final int CALLS = 512;

    private final Check check;
    private final Random random;
    private final int run;
    private final int style;
    private final int spread;
    private Run x = new Run();
    private Model model = new Model();
    private int calls = 0;

    /** How often read() answered each FAULT, and at 0 how often none: the runs must meet them all. */
    private static final int[] ANSWERS = new int[11];

    private ModelTest(Check check, int run) {
        this.check = check;
        this.run = run;
        random = new Random(run);
        style = random.nextInt(6);
        spread = new int[] {1, 2, 3, 12, 60, 256}[random.nextInt(6)];
    }

    public static void main(String[] args) {
        Check check = new Check();
        check.about("Promises 1 to 19, as the Model answers");
        for (int run = 0; run < RUNS && check.isClean(); run++) {
            new ModelTest(check, run).go();
        }
        for (int fault = 0; fault < ANSWERS.length; fault++) {
            check.due("read answers of FAULT " + fault + " were met", ANSWERS[fault] > 10);
        }
        check.end();
    }

    private void due(String call, int got, int want) {
        calls++;
        check.due("run " + run + ", call " + calls + ": " + call, got, want);
    }

    private boolean isOver() {
        return calls >= CALLS - 8 || !check.isClean();
    }

    private void go() {
        while (!isOver()) {
            switch (random.nextInt(8)) {
                case 0: case 1:
                    addSigns(1 + random.nextInt(random.nextInt(4) == 0 ? 300 : 70));
                    break;
                case 2:
                    askBlock();
                    break;
                case 3: case 4:
                    askRounds();
                    break;
                case 5:
                    writeAndSpoil();
                    break;
                case 6:
                    craft();
                    break;
                default:
                    seldom();
            }
        }
    }

    private void addSigns(int many) {
        for (int i = 0; i < many && !isOver(); i++) {
            int v = nextSign(i);
            due("sign(" + v + ")", x.sign(v), model.sign(v));
        }
    }

    private int nextSign(int i) {
        int size = model.told(0);
        int last = size == 0 ? 0 : model.at(size - 1);
        switch (style) {
            case 0:
                return random.nextInt(spread);
            case 1:
                return i % spread;
            case 2:
                return random.nextInt(8) == 0 ? random.nextInt(spread) : last;
            case 3:
                return (int) Math.abs(random.nextGaussian() * spread / 6) % 256;
            case 4:
                return size < 2 ? random.nextInt(spread) : model.at(size - 2);
            default:
                return random.nextInt(40) == 0 ? random.nextInt(300) - 20 : (size / 25 * 31 + random.nextInt(3)) % 256;
        }
    }

    private int near(int most) {
        return random.nextInt(10) == 0 ? random.nextInt() : random.nextInt(most + 3) - 1;
    }

    private void askBlock() {
        for (int what = -1; what <= 6 && !isOver(); what++) {
            due("told(" + what + ")", x.told(what), model.told(what));
        }
        for (int k = 0; k < 6 && !isOver(); k++) {
            int i = near(model.told(0));
            due("at(" + i + ")", x.at(i), model.at(i));
            due("place(" + i + ")", x.place(i), model.place(i));
            due("symbol(" + i + ")", x.symbol(i), model.symbol(i));
            int j = near(model.told(1));
            due("map(" + j + ")", x.map(j), model.map(j));
        }
    }

    private void askRounds() {
        for (int k = 0; k < 8 && !isOver(); k++) {
            int round = near(4);
            int group = near(model.told(3));
            int table = near(model.told(4));
            int kind = near(model.told(1) + 2);
            due("taken(" + round + ", " + group + ")", x.taken(round, group), model.taken(round, group));
            due("length(" + round + ", " + table + ", " + kind + ")",
                x.length(round, table, kind), model.length(round, table, kind));
            due("code(" + table + ", " + kind + ")", x.code(table, kind), model.code(table, kind));
        }
        due("cost()", x.cost(), model.cost());
    }

    private void writeAndSpoil() {
        due("write()", x.write(), model.write());
        for (int k = random.nextInt(8); k > 0 && !isOver(); k--) {
            int i = near(model.told(5));
            due("bit(" + i + ")", x.bit(i), model.bit(i));
            switch (random.nextInt(5)) {
                case 0:
                    int n = random.nextInt(3) == 0 ? near(model.told(5)) : model.told(5) - random.nextInt(4);
                    due("cut(" + n + ")", x.cut(n), model.cut(n));
                    break;
                case 1:
                    more(random.nextBoolean());
                    break;
                case 2:
                    break;
                default:
                    due("flip(" + i + ")", x.flip(i), model.flip(i));
                    readBoth();
                    due("flip(" + i + ")", x.flip(i), model.flip(i));
            }
        }
        readBoth();
    }

    private void more(boolean bit) {
        due("more(" + bit + ")", x.more(bit), model.more(bit));
    }

    private void readBoth() {
        int want = model.read();
        due("read()", x.read(), want);
        due("fault()", x.fault(), model.fault());
        ANSWERS[want < 0 ? -10 - want : 0]++;
    }

    private void seldom() {
        if (random.nextInt(3) == 0) {
            due("empty()", x.empty(), model.empty());
        } else {
            int n = near(model.told(5));
            due("cut(" + n + ")", x.cut(n), model.cut(n));
        }
    }

    /** Bits near the form, with TABLES, LENGTHS and choices that no writer makes. */
    private void craft() {
        StringBuilder bits = new StringBuilder();
        int kinds = 2 + craftMap(bits);
        int tables = random.nextInt(16) == 0 ? 0 : 1 + random.nextInt(3);
        int groups = random.nextInt(16) == 0 ? 0 : 1 + random.nextInt(3);
        bits.append(inBits(tables, 2)).append(inBits(groups, 5));
        for (int group = 0; group < groups; group++) {
            int ones = random.nextInt(30) == 0 ? tables : random.nextInt(Math.max(1, tables));
            bits.append("1".repeat(ones)).append('0');
        }
        for (int table = 0; table < tables; table++) {
            craftLengths(bits, kinds);
        }
        int many = random.nextInt(60);
        for (int i = 0; i < many; i++) {
            bits.append(random.nextInt(3) == 0 ? '1' : '0');
        }
        if (calls + bits.length() > CALLS - 12) {
            calls = CALLS;
            return;
        }
        due("cut(0)", x.cut(0), model.cut(0));
        for (char c : bits.toString().toCharArray()) {
            more(c == '1');
        }
        readBoth();
        due("told(0)", x.told(0), model.told(0));
    }

    private int craftMap(StringBuilder bits) {
        int signs = 0;
        StringBuilder others = new StringBuilder();
        int only = random.nextInt(16);
        for (int field = 0; field < 16; field++) {
            boolean has = field == only && random.nextInt(30) != 0 || random.nextInt(60) == 0;
            bits.append(has ? '1' : '0');
            for (int i = 0; has && i < 16; i++) {
                boolean marked = random.nextInt(6) == 0;
                others.append(marked ? '1' : '0');
                signs += marked ? 1 : 0;
            }
        }
        bits.append(others);
        return signs;
    }

    private void craftLengths(StringBuilder bits, int kinds) {
        int enough = 32 - Integer.numberOfLeadingZeros(kinds - 1);
        int length = random.nextInt(20) == 0 ? random.nextInt(32) : enough + random.nextInt(2);
        bits.append(inBits(length, 5));
        for (int kind = 0; kind < kinds; kind++) {
            int step = random.nextInt(6);
            bits.append(step == 0 ? "10" : step == 1 && random.nextInt(3) == 0 ? "11" : "").append('0');
        }
    }

    private static String inBits(int number, int width) {
        StringBuilder text = new StringBuilder();
        for (int shift = width - 1; shift >= 0; shift--) {
            text.append(number >> shift & 1);
        }
        return text.toString();
    }
}
