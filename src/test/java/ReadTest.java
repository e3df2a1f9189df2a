/** Promises 18 and 19: read and fault, with each FAULT at the bit at which it is met. */
public final class ReadTest {
    private static final Check CHECK = new Check();

    private static final String ZEROS = "0000000000000000";
    /** SIGN 0 alone: KINDS 0 to 2. */
    private static final String ONE = "1000000000000000 1000000000000000";
    /** SIGNS 0 and 1: KINDS 0 to 3. */
    private static final String TWO = "1000000000000000 1100000000000000";
    /** One TABLE and one GROUP, which takes it. */
    private static final String PLAIN = "01 00001 0";
    /** CODES 0, 10, 11 for KINDS 0 to 2. */
    private static final String SHORT = "00001 0 100 0";
    /** CODES 00, 01, 10, 11 for KINDS 0 to 3. */
    private static final String EVEN = "00010 0 0 0 0";

    public static void main(String[] args) {
        readBack();
        otherForms();
        bitsEnd();
        noSign();
        noTablesOrGroups();
        noPlace();
        wrongLength();
        tooManyCodes();
        noCode();
        tooManySigns();
        noGroupOrSign();
        somethingLeft();
        latestFault();
        CHECK.end();
    }

    /** The bits meet a FAULT as the last of them has been read, whatever comes behind them. */
    private static void met(int fault, String bits) {
        metBefore(fault, bits, "");
        metBefore(fault, bits, "0");
        metBefore(fault, bits, "1");
        metBefore(fault, bits, "0110100111001011");
        met1(bits);
    }

    private static void metBefore(int fault, String bits, String behind) {
        MoveFronts x = Check.withSigns(3, 4);
        Check.addBits(x, bits + behind);
        CHECK.due("read " + bits + " | " + behind, x.read(), -10 - fault);
        CHECK.due("fault " + bits + " | " + behind, x.fault(), Check.countBits(bits));
        CHECK.due("THE BLOCK stays", x.told(0) == 2 && x.at(0) == 3 && x.at(1) == 4);
        CHECK.due("THE TAPE stays", x.told(5), Check.countBits(bits + behind));
    }

    /** One bit less, and they end first. */
    private static void met1(String bits) {
        MoveFronts x = Check.withBits(bits);
        int left = Check.countBits(bits) - 1;
        x.cut(left);
        CHECK.due("read cut " + bits, x.read(), -11);
        CHECK.due("fault cut " + bits, x.fault(), left);
    }

    private static MoveFronts fine(String bits, int... signs) {
        MoveFronts x = Check.withSigns(99, 98, 99, 97);
        Check.addBits(x, bits);
        CHECK.due("what the old BLOCK is told by", x.told(1) == 3 && x.cost() > 0);
        CHECK.due("read " + bits, x.read(), signs.length);
        CHECK.due("n behind " + bits, x.told(1), java.util.Arrays.stream(signs).distinct().count());
        CHECK.due("fault " + bits, x.fault(), MoveFronts.NONE);
        CHECK.due("SIGNS " + bits, x.told(0), signs.length);
        for (int i = 0; i < signs.length; i++) {
            CHECK.due("SIGN " + i + " of " + bits, x.at(i), signs[i]);
        }
        CHECK.due("THE TAPE stays", x.told(5), Check.countBits(bits));
        return x;
    }

    private static void readBack() {
        MoveFronts x = Check.twosAndThrees();
        int bits = x.write();
        x.empty();
        CHECK.due("read", x.read(), 20);
        CHECK.due("SYMBOLS", x.told(2), 21);
        CHECK.due("cost", x.cost(), bits);
        CHECK.due("no FAULT", x.fault(), MoveFronts.NONE);
        MoveFronts most = new MoveFronts();
        for (int i = 0; i < 300; i++) {
            most.sign(200);
        }
        most.write();
        CHECK.due("read 300", most.read(), 300);
        CHECK.due("the last", most.at(299), 200);
        for (int left = 0; left < bits; left++) {
            x.cut(bits - 1 - left);
            CHECK.due("read cut", x.read(), -11);
            CHECK.due("fault cut", x.fault(), bits - 1 - left);
        }
    }

    private static void otherForms() {
        fine(ONE + PLAIN + SHORT + "0 11", 0);
        fine(ONE + PLAIN + SHORT + "10 11", 0, 0);
        fine(ONE + PLAIN + SHORT + "10 0 11", 0, 0, 0, 0);
        // three TABLES for one GROUP, which takes the last
        fine(ONE + "11 00001 110" + "00101000 10100 000" + SHORT + "0 11", 0);
        // LENGTHS up to 20 and down again; CODES fewer than there can be
        fine(ONE + PLAIN + "10100 0 0 0" + "00000000000000000000 00000000000000000010", 0);
        fine(ONE + PLAIN + "10011 100 110 0" + "0000000000000000000 0000000000000000001", 0, 0);
        // a PLACE ends a row of zeros
        fine(TWO + PLAIN + EVEN + "00 00 10 00 10 01 11", 0, 0, 0, 1, 1, 0, 0, 0);
        // a SIGN of the map that does not come
        MoveFronts x = fine(TWO + PLAIN + EVEN + "01 11", 0, 0);
        CHECK.due("n", x.told(1), 1);
        CHECK.due("map", x.map(1), MoveFronts.NONE);
        // the last field's last SIGN
        fine("0000000000000001 0000000000000001" + PLAIN + SHORT + "0 11", 255);
        // each GROUP with a TABLE of its own, a row of zeros in both: 2 and 4 of them
        fine(TWO + "10 00010 0 10" + EVEN + "00011 0 0 110 110"
            + "10 10 10 10 10 10 10 10 10 01 111 10 0", 1, 0, 1, 0, 1, 0, 1, 0, 1, 1, 1, 1, 1, 1, 1, 0);
    }

    private static void bitsEnd() {
        String bits = ONE + PLAIN + SHORT + "0";
        MoveFronts x = Check.withBits(bits);
        for (int left = Check.countBits(bits); left >= 0; left--) {
            x.cut(left);
            CHECK.due("read " + left, x.read(), -11);
            CHECK.due("fault " + left, x.fault(), left);
        }
    }

    private static void noSign() {
        met(2, ZEROS);
        met(2, "0000000000000001" + ZEROS);
        met(2, "1100000000000000 0000000000000001" + ZEROS);
        met(2, "1100000000000000" + ZEROS);
    }

    private static void noTablesOrGroups() {
        met(3, ONE + "00 00001");
        met(3, ONE + "01 00000");
        met(3, ONE + "00 00000");
        met(3, ONE + "00 11111");
        met(3, ONE + "11 00000");
    }

    private static void noPlace() {
        met(4, ONE + "01 00001 1");
        met(4, ONE + "10 00001 11");
        met(4, ONE + "11 00001 111");
        met(4, ONE + "11 00011 110 10 111");
        met(4, ONE + "01 11111 0000 1");
    }

    private static void wrongLength() {
        met(5, ONE + PLAIN + "00000");
        met(5, ONE + PLAIN + "10101");
        met(5, ONE + PLAIN + "11111");
        met(5, ONE + PLAIN + "00001 11");
        met(5, ONE + PLAIN + "10100 10");
        met(5, ONE + PLAIN + "00010 0 11 11");
        met(5, ONE + PLAIN + "10011 0 0 10 10");
        met(5, ONE + "10 00001 0" + SHORT + "00000");
    }

    private static void tooManyCodes() {
        met(6, ONE + PLAIN + "00001 0 0 0");
        met(6, ONE + PLAIN + "00001 0 0 1010101010101010101010101010101010101 0 0");
        met(6, TWO + PLAIN + "00010 0 0 0 110");
        met(6, ONE + "10 00001 0" + SHORT + "00001 0 0 100");
        met(6, ONE + "10 00001 0" + "00001 0 0 100");
    }

    private static void noCode() {
        met(7, ONE + PLAIN + "00010 0 0 0" + "11");
        met(7, ONE + PLAIN + "00010 0 0 0" + "00 01 11");
        met(7, ONE + PLAIN + "00011 0 0 0" + "1");
        met(7, ONE + PLAIN + "00011 0 0 0" + "011");
        met(7, ONE + PLAIN + "00001 0 10100 0" + "11");
        met(7, ONE + PLAIN + "10100 0 0 0" + "00000000000000000011");
        met(7, ONE + PLAIN + "10100 0 0 0" + "0000000001");
    }

    private static void tooManySigns() {
        String head = ONE + PLAIN + SHORT;
        met(8, head + "10 10 10 10 10 10 10 10");
        met(8, head + "0 0 0 0 0 0 0 0 0");
        // 301 is 0, 1, 0, .. : 1 + 4 + 4 + 8 + 32 + 64 and 128 or 256
        met(8, head + "0 10 0 10 0 10 0 10");
        String most = "01 00 01 01 00 01 00 00";
        met(8, TWO + PLAIN + EVEN + most + "10");
        met(8, TWO + PLAIN + EVEN + most + "00");
        MoveFronts x = Check.withBits(TWO + PLAIN + EVEN + most + "11");
        CHECK.due("300 are fine", x.read(), 300);
        MoveFronts y = Check.withBits(TWO + PLAIN + EVEN + "00 01 00 01 00 01 00 00 11");
        CHECK.due("1 + 4 + 4 + 16 + 16 + 64 + 64 + 128", y.read(), 297);
    }

    private static void noGroupOrSign() {
        met(9, ONE + PLAIN + SHORT + "11");
        met(9, TWO + "01 00010 00" + EVEN + "11");
        String ten = TWO + PLAIN + EVEN + "10 10 10 10 10 10 10 10 10 10";
        met(9, ten);
        met(9, TWO + "01 00010 00" + EVEN + "00 10 00 10 00 10 00 10 00 10"
            + "10 00 10 00 10 00 10 00 10 00");
    }

    private static void somethingLeft() {
        String fine = ONE + PLAIN + SHORT + "0 11";
        metBefore(10, fine, "0");
        metBefore(10, fine, "1");
        metBefore(10, fine, "0011010");
        met(10, ONE + "01 00010 00" + SHORT + "0 11");
        String nine = "10 10 10 10 10 10 10 10 10";
        met(10, TWO + "01 00010 00" + EVEN + nine + "11");
        met(10, TWO + "01 00011 000" + EVEN + nine + "10 11");
        fine(TWO + "01 00010 00" + EVEN + nine + "10 11", 1, 0, 1, 0, 1, 0, 1, 0, 1, 0);
        fine(TWO + "01 00001 0" + EVEN + nine + "11", 1, 0, 1, 0, 1, 0, 1, 0, 1);
    }

    private static void latestFault() {
        MoveFronts x = new MoveFronts();
        CHECK.due("no read", x.fault(), MoveFronts.NONE);
        Check.addBits(x, ONE + PLAIN + SHORT + "0 11 0");
        CHECK.due("read", x.read(), -20);
        CHECK.due("fault", x.fault(), 53);
        x.cut(53);
        CHECK.due("it stays till the next read", x.fault(), 53);
        x.sign(5);
        x.write();
        CHECK.due("it stays behind write too", x.fault(), 53);
        CHECK.due("read", x.read(), 1);
        CHECK.due("none any more", x.fault(), MoveFronts.NONE);
        x.cut(0);
        CHECK.due("read nothing", x.read(), -11);
        CHECK.due("fault", x.fault(), 0);
    }
}
