import java.util.Arrays;

/** Parts of TAPES that no writer makes, and what is due when one is read. */
final class Tapes {
    static final String ZEROS = "0000000000000000";
    /** SIGN 0 alone: KINDS 0 to 2. */
    static final String ONE = "1000000000000000 1000000000000000";
    /** SIGNS 0 and 1: KINDS 0 to 3. */
    static final String TWO = "1000000000000000 1100000000000000";
    /** One TABLE and one GROUP, which takes it. */
    static final String PLAIN = "01 00001 0";
    /** CODES 0, 10, 11 for KINDS 0 to 2. */
    static final String SHORT = "00001 0 100 0";
    /** CODES 00, 01, 10, 11 for KINDS 0 to 3. */
    static final String EVEN = "00010 0 0 0 0";

    private final Check check;

    Tapes(Check check) {
        this.check = check;
    }

    /** The bits meet a FAULT as the last of them has been read, whatever comes behind them, not before. */
    void met(int fault, String bits) {
        metAhead(fault, bits, "");
        metAhead(fault, bits, "0");
        metAhead(fault, bits, "1");
        metAhead(fault, bits, "0110100111001011");
        endsAt(bits, Run.countBits(bits) - 1);
    }

    /** They meet it ahead of what comes behind; THE BLOCK and THE TAPE stay. */
    void metAhead(int fault, String bits, String behind) {
        String name = bits + " | " + behind;
        Run x = Run.withSigns(3, 4);
        x.addBits(bits + behind);
        check.due("read " + name, x.read(), -10 - fault);
        check.due("fault " + name, x.fault(), Run.countBits(bits));
        check.due("THE BLOCK stays", x.told(0) == 2 && x.at(0) == 3 && x.at(1) == 4);
        check.due("THE TAPE stays", x.told(5), Run.countBits(bits + behind));
    }

    /** Just so many of the bits meet no FAULT but that they end. */
    void endsAt(String bits, int left) {
        Run x = Run.withBits(bits);
        x.cut(left);
        check.due("read " + left + " of " + bits, x.read(), -11);
        check.due("fault " + left + " of " + bits, x.fault(), left);
    }

    /** The bits are read as these SIGNS. */
    Run fine(String bits, int... signs) {
        Run x = Run.withSigns(99, 98, 99, 97);
        x.addBits(bits);
        check.due("what the old BLOCK is told by", x.told(1) == 3 && x.cost() > 0);
        check.due("read " + bits, x.read(), signs.length);
        check.due("fault " + bits, x.fault(), MoveFronts.NONE);
        check.due("SIGNS " + bits, x.told(0), signs.length);
        check.due("n behind " + bits, x.told(1), Arrays.stream(signs).distinct().count());
        for (int i = 0; i < signs.length; i++) {
            check.due("SIGN " + i + " of " + bits, x.at(i), signs[i]);
        }
        check.due("THE TAPE stays", x.told(5), Run.countBits(bits));
        return x;
    }

    static String inBits(int number, int width) {
        StringBuilder text = new StringBuilder();
        for (int shift = width - 1; shift >= 0; shift--) {
            text.append(number >> shift & 1);
        }
        return text.toString();
    }

    /** (a) for SIGNS 0 to n - 1. */
    static String firstSigns(int n) {
        StringBuilder first = new StringBuilder();
        StringBuilder others = new StringBuilder();
        for (int field = 0; field < 16; field++) {
            first.append(field * 16 < n ? '1' : '0');
            for (int v = field * 16; field * 16 < n && v < field * 16 + 16; v++) {
                others.append(v < n ? '1' : '0');
            }
        }
        return first.append(others).toString();
    }

    /** (d) of one TABLE with these LENGTHS. */
    static String table(int... lengths) {
        int last = lengths[0];
        StringBuilder text = new StringBuilder(inBits(last, 5));
        for (int length : lengths) {
            text.append("10".repeat(Math.max(0, length - last)));
            text.append("11".repeat(Math.max(0, last - length))).append('0');
            last = length;
        }
        return text.toString();
    }

    /** (d) of one TABLE whose KINDS all have the same LENGTH. */
    static String evenTable(int kinds, int length) {
        int[] lengths = new int[kinds];
        Arrays.fill(lengths, length);
        return table(lengths);
    }
}
