/** 'Terms', TO READ: what else may be read, and FAULTS 1 to 10, each at its own bit. */
public final class FaultTest {
    private static final Check CHECK = new Check();
    private static final Tapes TAPES = new Tapes(CHECK);
    private static final String ZEROS = Tapes.ZEROS, ONE = Tapes.ONE, TWO = Tapes.TWO;
    private static final String PLAIN = Tapes.PLAIN, SHORT = Tapes.SHORT, EVEN = Tapes.EVEN;

    public static void main(String[] args) {
        otherTables();
        otherLengths();
        otherChoices();
        mostKinds();
        bitsEnd();
        bitsEndWithinANumber();
        noSignAtAll();
        noSignInOthers();
        noTablesOrGroups();
        mostTablesAndGroups();
        noPlace();
        placeOfTheMovedList();
        lengthAsTold();
        lengthComeBy();
        tooManyCodes();
        tooManyCodesByTheLeast();
        tooManyOfManyKinds();
        noCode();
        noCodeAsSoonAs();
        fewerCodes();
        signsUpToRoom();
        tooManySigns();
        tooManyAheadOfOthers();
        groupsAreOver();
        groupsAreOverAheadOfBits();
        groupsAreOverBehindThreeHundred();
        endWithoutSigns();
        groupWithoutSymbols();
        bitsLeft();
        firstFaultOfSeveral();
        CHECK.end();
    }

    private static void otherTables() {
        CHECK.about("TO READ: TABLES may be others than THE BLOCK would be WRITTEN with");
        TAPES.fine(ONE + PLAIN + SHORT + "0 11", 0);
        TAPES.fine(ONE + "10 00001 0" + SHORT + SHORT + "0 11", 0);
        TAPES.fine(ONE + "11 00001 110" + "00101 0 0 0" + "10100 0 0 0" + SHORT + "0 11", 0);
        // one TABLE for 21 SYMBOLS
        TAPES.fine(TWO + "01 00011 000" + Tapes.table(3, 3, 1, 2) + "0".repeat(20) + "10",
            1, 0, 1, 0, 1, 0, 1, 0, 1, 0, 1, 0, 1, 0, 1, 0, 1, 0, 1, 0);
    }

    private static void otherLengths() {
        CHECK.about("TO READ: LENGTHS may be others, 1 to 20");
        TAPES.fine(ONE + PLAIN + Tapes.table(20, 20, 20) + "0".repeat(20) + "0".repeat(18) + "10", 0);
        TAPES.fine(ONE + PLAIN + Tapes.table(19, 20, 19) + "0".repeat(19) + "0".repeat(18) + "1", 0);
        TAPES.fine(ONE + PLAIN + Tapes.table(20, 19, 19) + "0".repeat(19) + "0".repeat(18) + "1", 0, 0);
        TAPES.fine(ONE + PLAIN + Tapes.table(1, 20, 20) + "0 1" + "0".repeat(18) + "1", 0);
        TAPES.fine(ONE + PLAIN + Tapes.table(20, 20, 1) + "1" + "0".repeat(19) + "0", 0);
    }

    private static void otherChoices() {
        CHECK.about("TO READ: which TABLES are taken may be others; (c) tells them by a list whose front moves");
        // each GROUP with a TABLE of its own; a row of zeros is in both: 2 and 4 of them
        String lengths = EVEN + Tapes.table(3, 3, 2, 1);
        TAPES.fine(TWO + "10 00010 0 10" + lengths + "10 10 10 10 10 10 10 10 10 01 111 10 0",
            1, 0, 1, 0, 1, 0, 1, 0, 1, 1, 1, 1, 1, 1, 1, 0);
        // TABLES 1, then 0 at PLACE 1 of 1, 0
        TAPES.fine(TWO + "10 00010 10 10" + lengths + "10 10 10 10 10 10 10 10 10 10 00 11",
            1, 0, 1, 0, 1, 0, 1, 0, 1, 0, 0);
        // TABLES 2, 1, 1, with a TABLE 0 that has no CODE of one bit
        TAPES.fine(TWO + "11 00011 110 110 0" + Tapes.table(20, 20, 20, 20) + Tapes.table(2, 2, 2, 2)
            + Tapes.table(3, 3, 1, 2) + "0".repeat(10) + "10".repeat(10) + "11",
            1, 0, 1, 0, 1, 0, 1, 0, 1, 0, 1, 0, 1, 0, 1, 0, 1, 0, 1, 0);
    }

    private static void mostKinds() {
        CHECK.about("TO READ: all 256 SIGNS, and so 258 KINDS, may be there");
        Run x = Run.falling(300);
        int bits = x.write();
        x.empty();
        CHECK.due("read", x.read(), 300);
        CHECK.due("n", x.told(1), 256);
        CHECK.due("the 256th", x.at(255), 0);
        CHECK.due("the 257th", x.at(256), 255);
        CHECK.due("cost", x.cost(), bits);
        x.cut(bits - 1);
        CHECK.due("read one bit less", x.read(), -11);
        CHECK.due("fault", x.fault(), bits - 1);
    }

    private static void bitsEnd() {
        CHECK.about("FAULT 1: they end, at each bit short of the whole");
        Run whole = Run.threeTables();
        int bits = whole.write();
        CHECK.due("the whole", whole.read(), 59);
        for (int left = 0; left < bits; left++) {
            Run x = Run.threeTables();
            x.write();
            x.cut(left);
            CHECK.due("read " + left, x.read(), -11);
            CHECK.due("fault " + left, x.fault(), left);
        }
    }

    private static void bitsEndWithinANumber() {
        CHECK.about("FAULT 1: all bits count as read, those of a number that is not whole too");
        String bits = ONE + "11 00010 110 0" + SHORT + SHORT + SHORT + "10 11";
        for (int left = Run.countBits(bits) - 1; left >= 0; left--) {
            TAPES.endsAt(bits, left);
        }
        TAPES.endsAt(ZEROS, 15);
        TAPES.endsAt("", 0);
    }

    private static void noSignAtAll() {
        CHECK.about("FAULT 2: no SIGN in the first 16 bits of (a), when they are there");
        TAPES.met(2, ZEROS);
        TAPES.fine(ONE + PLAIN + SHORT + "0 11", 0);
        TAPES.fine("0000000000000001 0000000000000001" + PLAIN + SHORT + "0 11", 255);
    }

    private static void noSignInOthers() {
        CHECK.about("FAULT 2: no SIGN in other 16 bits of (a), when they are there");
        TAPES.met(2, "1000000000000000" + ZEROS);
        TAPES.met(2, "0000000000000001" + ZEROS);
        TAPES.met(2, "1100000000000000 0000000000000001" + ZEROS);
        TAPES.met(2, "1100000000000000" + ZEROS);
        TAPES.met(2, "1111111111111111" + "0000000000000001".repeat(15) + ZEROS);
        TAPES.fine("0100000000000000 0000000000000001" + PLAIN + SHORT + "0 11", 31);
        TAPES.fine("0100000000000000 1000000000000000" + PLAIN + SHORT + "0 11", 16);
        TAPES.fine("1100000000000000 0000000000000001 1000000000000000" + PLAIN + EVEN + "10 10 11", 16, 15);
    }

    private static void noTablesOrGroups() {
        CHECK.about("FAULT 3: no TABLES, or no GROUPS, when both are there");
        TAPES.met(3, ONE + "00 00001");
        TAPES.met(3, ONE + "01 00000");
        TAPES.met(3, ONE + "00 00000");
        TAPES.met(3, ONE + "00 11111");
        TAPES.met(3, ONE + "11 00000");
        TAPES.endsAt(ONE + "00 0000", 38);
    }

    private static void mostTablesAndGroups() {
        CHECK.about("FAULT 3: 1 and 3 TABLES, 1 and 31 GROUPS are none");
        TAPES.fine(ONE + "01 00001 0" + SHORT + "0 11", 0);
        TAPES.fine(ONE + "11 00001 0" + SHORT + SHORT + SHORT + "0 11", 0);
        Run x = Run.alternating(0, 1, 300);
        x.write();
        CHECK.due("31 GROUPS in 5 bits", x.bit(34) + x.bit(35) + x.bit(36) + x.bit(37) + x.bit(38), 5);
        CHECK.due("31 GROUPS", x.read(), 300);
        // 31 GROUPS are taken in, and only behind the END 30 of them are found without SYMBOLS
        TAPES.met(10, ONE + "01 11111" + "0".repeat(31) + SHORT + "0 11");
    }

    private static void noPlace() {
        CHECK.about("FAULT 4: a PLACE that there is not, at the first 1 too many");
        TAPES.met(4, ONE + "01 00001 1");
        TAPES.met(4, ONE + "10 00001 11");
        TAPES.met(4, ONE + "11 00001 111");
        TAPES.met(4, ONE + "01 11111 0000 1");
        TAPES.met(4, ONE + "01 11111" + "0".repeat(30) + "1");
        TAPES.fine(ONE + "01 00001 0" + SHORT + "0 11", 0);
        TAPES.fine(ONE + "10 00001 10" + "00101 0 0 0" + SHORT + "0 11", 0);
        TAPES.fine(ONE + "11 00001 110" + "00101 0 0 0" + "00110 0 0 0" + SHORT + "0 11", 0);
    }

    private static void placeOfTheMovedList() {
        CHECK.about("FAULT 4: the list of TABLES stays as long as it was, whatever came to its front");
        TAPES.met(4, ONE + "11 00011 110 10 111");
        TAPES.met(4, ONE + "10 00010 10 11");
        TAPES.met(4, ONE + "11 11111" + "110".repeat(30) + "111");
    }

    private static void lengthAsTold() {
        CHECK.about("FAULT 5: a LENGTH below 1 or above 20, as soon as it is told");
        TAPES.met(5, ONE + PLAIN + "00000");
        TAPES.met(5, ONE + PLAIN + "10101");
        TAPES.met(5, ONE + PLAIN + "11111");
        TAPES.met(5, ONE + "10 00001 0" + SHORT + "00000");
        TAPES.met(5, ONE + "11 00001 0" + SHORT + SHORT + "10101");
        TAPES.fine(ONE + PLAIN + "00001 0 100 0" + "0 11", 0);
        TAPES.fine(ONE + PLAIN + "10100 0 0 0" + "0".repeat(20) + "0".repeat(18) + "10", 0);
    }

    private static void lengthComeBy() {
        CHECK.about("FAULT 5: a LENGTH below 1 or above 20, as soon as it is come by");
        // the first KIND's own steps, then others'; what would come back is met all the same
        TAPES.met(5, ONE + PLAIN + "00001 11");
        TAPES.met(5, ONE + PLAIN + "10100 10");
        TAPES.met(5, ONE + PLAIN + "00010 0 11 11");
        TAPES.met(5, ONE + PLAIN + "10011 0 0 10 10");
        TAPES.met(5, ONE + PLAIN + "00001 " + "10".repeat(20));
        TAPES.met(5, ONE + PLAIN + "10100 " + "11".repeat(20));
        TAPES.metAhead(5, ONE + PLAIN + "10100 10", "11 0 0 0 0");
        TAPES.metAhead(5, ONE + PLAIN + "00001 11", "10 0 100 0 0 11");
        // from 1 up to 20 and back to 1, all of it within
        TAPES.fine(ONE + PLAIN + "00001 " + "10".repeat(19) + "11".repeat(19) + "0 100 0" + "0 11", 0);
        TAPES.fine(ONE + PLAIN + "10100 " + "11".repeat(19) + "0 100 0" + "0 11", 0);
        TAPES.fine(ONE + PLAIN + "00010 110 100 0" + "0 11", 0);
        TAPES.fine(ONE + PLAIN + "00001 1011 0 100 1110 0" + "0 11", 0);
    }

    private static void tooManyCodes() {
        CHECK.about("FAULT 6: more CODES than there can be, when a TABLE's LENGTHS are there");
        TAPES.met(6, ONE + PLAIN + Tapes.table(1, 1, 1));
        TAPES.met(6, ONE + PLAIN + Tapes.table(1, 2, 1));
        TAPES.met(6, TWO + PLAIN + Tapes.table(2, 2, 2, 1));
        TAPES.met(6, ONE + "10 00001 0" + SHORT + Tapes.table(1, 1, 2));
        // ahead of the bits of the next TABLE, and in one that no GROUP takes
        TAPES.met(6, ONE + "10 00001 10" + Tapes.table(1, 1, 2));
        TAPES.fine(ONE + PLAIN + Tapes.table(1, 2, 2) + "0 11", 0);
        TAPES.fine(TWO + PLAIN + Tapes.table(2, 2, 2, 2) + "10 11", 1);
    }

    /** LENGTHS 1, 2, and so on up to 19, and then some of 20. */
    private static String steps(int twenties) {
        int[] lengths = new int[19 + twenties];
        for (int kind = 0; kind < lengths.length; kind++) {
            lengths[kind] = Math.min(kind + 1, 20);
        }
        return Tapes.firstSigns(lengths.length - 2) + PLAIN + Tapes.table(lengths);
    }

    private static void tooManyCodesByTheLeast() {
        CHECK.about("FAULT 6: above 1 by 2 to the minus 20 is too much, 1 is not");
        String nines = "1".repeat(19);
        TAPES.met(6, ONE + PLAIN + Tapes.table(1, 1, 20));
        TAPES.met(6, steps(3));
        TAPES.fine(steps(2) + "0" + nines + "1", 0);
        TAPES.fine(steps(1) + "0" + nines + "0", 0);
    }

    private static void tooManyOfManyKinds() {
        CHECK.about("FAULT 6: all KINDS count, 128 of LENGTH 7 are 1, 129 are too many");
        TAPES.fine(Tapes.firstSigns(126) + PLAIN + Tapes.evenTable(128, 7) + "0000000 1111111", 0);
        TAPES.metAhead(6, Tapes.firstSigns(127) + PLAIN + Tapes.evenTable(129, 7), "0000000 1111111");
        TAPES.metAhead(6, Tapes.firstSigns(200) + PLAIN + Tapes.evenTable(202, 7), "0");
        TAPES.fine(Tapes.firstSigns(200) + PLAIN + Tapes.evenTable(202, 8) + "11001000 11001001", 199);
    }

    private static void noCode() {
        CHECK.about("FAULT 7: no CODE is, or begins with, the bits of a SYMBOL");
        TAPES.met(7, ONE + PLAIN + Tapes.table(2, 2, 2) + "11");
        TAPES.met(7, ONE + PLAIN + Tapes.table(2, 2, 2) + "00 01 11");
        TAPES.met(7, ONE + PLAIN + Tapes.table(1, 3, 3) + "11");
        TAPES.metAhead(7, steps(1) + "0" + "1".repeat(20), "");
        TAPES.metAhead(7, steps(1) + "0" + "1".repeat(20), "11");
        TAPES.endsAt(steps(1) + "0" + "1".repeat(20), Run.countBits(steps(1)) + 20);
    }

    private static void noCodeAsSoonAs() {
        CHECK.about("FAULT 7: as soon as that is so, at the first bit, the tenth, the last");
        TAPES.met(7, ONE + PLAIN + Tapes.table(3, 3, 3) + "1");
        TAPES.met(7, ONE + PLAIN + Tapes.table(3, 3, 3) + "011");
        TAPES.met(7, ONE + PLAIN + Tapes.table(20, 20, 20) + "1");
        TAPES.met(7, ONE + PLAIN + Tapes.table(20, 20, 20) + "0000000001");
        TAPES.met(7, ONE + PLAIN + Tapes.table(20, 20, 20) + "0".repeat(18) + "11");
        TAPES.met(7, ONE + PLAIN + Tapes.table(2, 2, 20) + "11");
        TAPES.met(7, ONE + PLAIN + Tapes.table(2, 2, 20) + "101");
    }

    private static void fewerCodes() {
        CHECK.about("FAULT 7: a TABLE may have fewer CODES than there can be");
        TAPES.fine(ONE + PLAIN + Tapes.table(2, 2, 2) + "00 10", 0);
        TAPES.fine(ONE + PLAIN + Tapes.table(3, 3, 3) + "001 010", 0, 0);
        TAPES.fine(ONE + PLAIN + Tapes.table(2, 2, 20) + "00 10" + "0".repeat(18), 0);
    }

    private static void signsUpToRoom() {
        CHECK.about("FAULT 8: 300 SIGNS are not too many");
        String head = TWO + PLAIN + EVEN;
        // 2 + 2 + 8 + 16 + 16 + 64 + 64 + 128 is 300
        CHECK.due("PLACES 0 alone", Run.withBits(head + "01 00 01 01 00 01 00 00 11").read(), 300);
        // 1 + 2 + 8 + 16 + 16 + 64 + 64 + 128 is 299
        String almost = head + "00 00 01 01 00 01 00 00";
        CHECK.due("299", Run.withBits(almost + "11").read(), 299);
        CHECK.due("299 and PLACE 1", Run.withBits(almost + "10 11").read(), 300);
        // 2 + 4 + 4 + 16 + 16 + 64 + 64 + 128 is 298, with a 0 for the 2 it is 297
        String two = TWO + "01 00010 00" + EVEN;
        CHECK.due("298, PLACE 1, a 0", Run.withBits(two + "01 01 00 01 00 01 00 00 10 00 11").read(), 300);
        CHECK.due("297, PLACE 1, a 1", Run.withBits(two + "00 01 00 01 00 01 00 00 10 01 11").read(), 300);
    }

    private static void tooManySigns() {
        CHECK.about("FAULT 8: more than 300 SIGNS, when the SYMBOL by which there are more is there");
        String head = TWO + PLAIN + EVEN;
        String most = head + "01 00 01 01 00 01 00 00";
        TAPES.met(8, most + "10");
        TAPES.met(8, most + "00");
        TAPES.met(8, most + "01");
        // 299 with PLACE 1, then a 0 is 300 and one that counts 2 is 301
        String almost = TWO + "01 00010 00" + EVEN + "01 01 00 01 00 01 00 00 10";
        TAPES.met(8, almost + "01");
        TAPES.met(8, almost + "00 00");
        TAPES.met(8, almost + "00 10");
        // 254 and 256 more, 255 and 256 more, 169 and 256 more
        TAPES.met(8, ONE + PLAIN + SHORT + "10 10 10 10 10 10 10 10");
        TAPES.met(8, ONE + PLAIN + SHORT + "0 0 0 0 0 0 0 0 0");
        TAPES.met(8, ONE + PLAIN + SHORT + "0 10 0 10 0 10 0 10");
    }

    private static void tooManyAheadOfOthers() {
        CHECK.about("FAULT 8: ahead of FAULTS 1 and 9, which would come next");
        // the tenth SYMBOL of the one GROUP: 256 and 256 more, then 300 and PLACE 1
        TAPES.met(8, TWO + PLAIN + EVEN + "10" + "00".repeat(9));
        TAPES.met(8, TWO + PLAIN + EVEN + "10 00 00 01 01 00 01 00 00 10");
    }

    private static void groupsAreOver() {
        CHECK.about("FAULT 9: a SYMBOL is to be read and all GROUPS are over");
        String nine = "10 10 10 10 10 10 10 10 10";
        TAPES.met(9, TWO + PLAIN + EVEN + nine + "10");
        TAPES.met(9, TWO + "01 00010 00" + EVEN + nine + "10" + nine + "10");
        TAPES.fine(TWO + PLAIN + EVEN + nine + "11", 1, 0, 1, 0, 1, 0, 1, 0, 1);
        TAPES.fine(TWO + "01 00010 00" + EVEN + nine + "10" + nine + "11",
            1, 0, 1, 0, 1, 0, 1, 0, 1, 0, 1, 0, 1, 0, 1, 0, 1, 0, 1);
    }

    private static void groupsAreOverAheadOfBits() {
        CHECK.about("FAULT 9: ahead of the bits of that SYMBOL, whether there are any or not");
        String ten = TWO + PLAIN + EVEN + "10 10 10 10 10 10 10 10 10 10";
        TAPES.metAhead(9, ten, "");
        TAPES.metAhead(9, ten, "11");
        TAPES.metAhead(9, ten, "1");
        // 111 begins no CODE here, and is not looked at
        TAPES.metAhead(9, TWO + PLAIN + Tapes.table(3, 3, 1, 3) + "0".repeat(10), "111");
    }

    private static void groupsAreOverBehindThreeHundred() {
        CHECK.about("FAULT 9: with 300 SIGNS in 30 GROUPS too");
        // 299 SIGNS and END, in CODES 0 and 10: with END's 1 turned, it is the 300th SIGN and one 0 more
        Run x = Run.alternating(0, 1, 299);
        int bits = x.write();
        CHECK.due("GROUPS", x.told(3), 30);
        CHECK.due("END", x.bit(bits - 2) * 2 + x.bit(bits - 1), 2);
        x.flip(bits - 2);
        CHECK.due("read", x.read(), -19);
        CHECK.due("fault", x.fault(), bits - 1);
    }

    private static void endWithoutSigns() {
        CHECK.about("FAULT 9: the END comes and there are no SIGNS");
        TAPES.met(9, ONE + PLAIN + SHORT + "11");
        TAPES.met(9, TWO + "01 00010 00" + EVEN + "11");
        TAPES.met(9, ONE + PLAIN + Tapes.table(2, 2, 1) + "0");
        TAPES.fine(ONE + PLAIN + Tapes.table(2, 2, 1) + "10 0", 0);
        TAPES.fine(TWO + PLAIN + EVEN + "10 11", 1);
    }

    private static void groupWithoutSymbols() {
        CHECK.about("FAULT 10: behind the END a GROUP of which no SYMBOL was read");
        String nine = "10 10 10 10 10 10 10 10 10";
        TAPES.met(10, ONE + "01 00010 00" + SHORT + "0 11");
        TAPES.met(10, TWO + "01 00010 00" + EVEN + nine + "11");
        TAPES.met(10, TWO + "01 00011 000" + EVEN + nine + "10 11");
        TAPES.met(10, TWO + "01 00011 000" + EVEN + nine + "10" + nine + "11");
        // END as the first of the last GROUP is enough
        TAPES.fine(TWO + "01 00010 00" + EVEN + nine + "10 11", 1, 0, 1, 0, 1, 0, 1, 0, 1, 0);
        TAPES.fine(TWO + PLAIN + EVEN + nine + "11", 1, 0, 1, 0, 1, 0, 1, 0, 1);
    }

    private static void bitsLeft() {
        CHECK.about("FAULT 10: behind the END bits are left");
        String fine = ONE + PLAIN + SHORT + "0 11";
        TAPES.fine(fine, 0);
        TAPES.metAhead(10, fine, "0");
        TAPES.metAhead(10, fine, "1");
        TAPES.metAhead(10, fine, "0011010");
        TAPES.metAhead(10, fine, "0".repeat(400));
        Run x = Run.threeTables();
        int bits = x.write();
        CHECK.due("more", x.more(false), bits + 1);
        CHECK.due("read", x.read(), -20);
        CHECK.due("fault", x.fault(), bits);
    }

    private static void firstFaultOfSeveral() {
        CHECK.about("FAULTS: the first that is met as bits are read");
        // no SIGN in the second 16 bits, though TABLES would be 0 too
        TAPES.metAhead(2, "1000000000000000" + ZEROS, "00 00000");
        // no GROUPS, though a LENGTH would be 0
        TAPES.metAhead(3, ONE + "01 00000", "00000");
        // no such PLACE, though a LENGTH would be 0
        TAPES.metAhead(4, ONE + "01 00001 1", "00000");
        // LENGTH 21 in a TABLE that would have too many CODES
        TAPES.metAhead(5, ONE + PLAIN + "00001 0 0" + "10".repeat(20), "0");
        // too many CODES in TABLE 0, LENGTH 0 in TABLE 1
        TAPES.metAhead(6, ONE + "10 00001 0" + Tapes.table(1, 1, 1), "00000");
        // the END without SIGNS, though a GROUP has no SYMBOLS and bits are left
        TAPES.metAhead(9, ONE + "01 00010 00" + SHORT + "11", "0");
    }
}
