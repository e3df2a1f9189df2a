/** Promises 18 and 19: read and fault. FaultTest has each FAULT at its bit. */
public final class ReadTest {
    private static final int NONE = MoveFronts.NONE;
    private static final Check CHECK = new Check();
    private static final Tapes TAPES = new Tapes(CHECK);
    private static final String ONE = Tapes.ONE, TWO = Tapes.TWO;
    private static final String PLAIN = Tapes.PLAIN, SHORT = Tapes.SHORT, EVEN = Tapes.EVEN;
    private static final String FINE = ONE + PLAIN + SHORT + "0 11";

    public static void main(String[] args) {
        readBack();
        howManySigns();
        blockBecomes();
        mapOfWhatCame();
        rowsOfZeros();
        faultAnswers();
        blockStays();
        tapeStays();
        readAgain();
        readOthers();
        noRead();
        noFault();
        faultAtNoBit();
        faultAtTheLastBit();
        latestFault();
        CHECK.end();
    }

    private static void readBack() {
        CHECK.about("Promise 18: THE BLOCK becomes what THE TAPE is read as: what was WRITTEN is read back");
        Run[] runs = {Run.twoTables(), Run.threeTables(), Run.withSigns(255), Run.alternating(0, 255, 18)};
        for (Run x : runs) {
            int signs = x.told(0);
            int last = x.at(signs - 1);
            int bits = x.write();
            x.empty();
            CHECK.due("read", x.read(), signs);
            CHECK.due("the last", x.at(signs - 1), last);
            CHECK.due("cost", x.cost(), bits);
            CHECK.due("written again", x.write(), bits);
        }
    }

    private static void howManySigns() {
        CHECK.about("Promise 18: it answers how many SIGNS, 1 to 300");
        TAPES.fine(FINE, 0);
        TAPES.fine(ONE + PLAIN + SHORT + "10 11", 0, 0);
        Run most = Run.repeating(200, 300);
        most.write();
        CHECK.due("300", most.read(), 300);
        CHECK.due("the last", most.at(299), 200);
        CHECK.due("no more", most.at(300), NONE);
    }

    private static void blockBecomes() {
        CHECK.about("Promise 18: nothing of the old BLOCK is left, in what follows from it neither");
        Run x = Run.alternating(8, 9, 300);
        CHECK.due("the old cost", x.cost() > 300);
        x.addBits(FINE);
        CHECK.due("read", x.read(), 1);
        int[] dues = {1, 1, 2, 1, 1, 53};
        for (int what = 0; what < dues.length; what++) {
            CHECK.due("told " + what, x.told(what), dues[what]);
        }
        CHECK.due("at 0", x.at(0), 0);
        CHECK.due("at 1", x.at(1), NONE);
        CHECK.due("map 1", x.map(1), NONE);
        CHECK.due("place 1", x.place(1), NONE);
        CHECK.due("symbol 1", x.symbol(1), 2);
        CHECK.due("taken", x.taken(4, 1), NONE);
        CHECK.due("length", x.length(4, 0, 2), 1);
        CHECK.due("length of a TABLE that went", x.length(4, 1, 0), NONE);
        CHECK.due("code", x.code(0, 1), 3);
        CHECK.due("cost", x.cost(), 53);
        CHECK.due("sign", x.sign(5), 2);
    }

    private static void mapOfWhatCame() {
        CHECK.about("Promise 18: a SIGN that (a) tells and that never comes is not in THE BLOCK");
        Run x = TAPES.fine(TWO + PLAIN + EVEN + "01 11", 0, 0);
        CHECK.due("n", x.told(1), 1);
        CHECK.due("map", x.map(1), NONE);
    }

    private static void rowsOfZeros() {
        CHECK.about("Promise 18: PLACES 0 are read as they are told, from the front of THE LIST");
        TAPES.fine(ONE + PLAIN + SHORT + "10 0 11", 0, 0, 0, 0);
        TAPES.fine(ONE + PLAIN + SHORT + "0 10 11", 0, 0, 0, 0, 0);
        TAPES.fine(TWO + PLAIN + EVEN + "00 00 10 00 10 01 11", 0, 0, 0, 1, 1, 0, 0, 0);
        TAPES.fine(TWO + PLAIN + EVEN + "10 01 00 11", 1, 1, 1, 1, 1);
    }

    private static void faultAnswers() {
        CHECK.about("Promise 18: with a FAULT it answers -10 less its number, -11 to -20");
        String[] tapes = {"", Tapes.ZEROS, ONE + "00 00000", ONE + "01 00001 1", ONE + PLAIN + "00000",
            ONE + PLAIN + Tapes.table(1, 1, 1), ONE + PLAIN + Tapes.table(2, 2, 2) + "11",
            ONE + PLAIN + SHORT + "000000000", ONE + PLAIN + SHORT + "11", FINE + "0"};
        for (int k = 0; k < tapes.length; k++) {
            CHECK.due("FAULT " + (k + 1), Run.withBits(tapes[k]).read(), -11 - k);
        }
    }

    private static void blockStays() {
        CHECK.about("Promise 18: with a FAULT THE BLOCK stays, though SIGNS had been read");
        Run x = Run.twoTables();
        int cost = x.cost();
        // four SIGNS, then bits are left
        x.addBits(TWO + PLAIN + EVEN + "10 10 01 11 0");
        CHECK.due("read", x.read(), -20);
        CHECK.due("SIGNS", x.told(0), 20);
        for (int i = 0; i < 20; i++) {
            CHECK.due("at " + i, x.at(i), i < 10 ? (i + 1) % 2 : 2 - (i - 10) % 3);
        }
        CHECK.due("cost", x.cost(), cost);
        Run none = Run.withBits(FINE + "0");
        CHECK.due("read without SIGNS", none.read(), -20);
        CHECK.due("still none", none.told(0), 0);
    }

    private static void tapeStays() {
        CHECK.about("Promise 18: THE TAPE stays, read or not");
        Run x = Run.withBits(FINE);
        CHECK.due("read", x.read(), 1);
        CHECK.due("the bits", x.bits(), FINE);
        x.more(true);
        CHECK.due("read with a FAULT", x.read(), -20);
        CHECK.due("the bits too", x.bits(), FINE + "1");
    }

    private static void readAgain() {
        CHECK.about("Promise 18: each read() begins at the first bit, whatever the one before met");
        Run x = Run.withBits(FINE);
        for (int turn = 0; turn < 3; turn++) {
            CHECK.due("read", x.read(), 1);
            x.cut(52);
            CHECK.due("read one bit less", x.read(), -11);
            x.more(true);
            CHECK.due("read the whole", x.read(), 1);
            x.flip(0);
            CHECK.due("read without a SIGN", x.read(), -12);
            x.flip(0);
        }
    }

    private static void readOthers() {
        CHECK.about("Promise 18: nothing of what was read ahead is left: SIGNS, TABLES, choices");
        // TABLE 0 has CODES 0, 10, 11, TABLE 1 has 10, 11, 0, and the GROUP takes either
        String tables = SHORT + Tapes.table(2, 2, 1);
        Run x = Run.withBits(TWO + PLAIN + EVEN + "10 10 01 11");
        CHECK.due("two SIGNS", x.read(), 4);
        String[] tapes = {ONE + "10 00001 10" + tables + "10 0", ONE + "10 00001 0" + tables + "10 11",
            ONE + "10 00001 10" + tables + "11 0", FINE};
        int[] dues = {1, 2, 2, 1};
        for (int k = 0; k < tapes.length; k++) {
            x.cut(0);
            x.addBits(tapes[k]);
            CHECK.due("read " + k, x.read(), dues[k]);
            CHECK.due("n", x.told(1), 1);
            CHECK.due("the SIGN", x.at(0), 0);
        }
    }

    private static void noRead() {
        CHECK.about("Promise 19: NONE when there was no read()");
        Run x = new Run();
        CHECK.due("new", x.fault(), NONE);
        x.sign(5);
        x.write();
        x.cut(7);
        CHECK.due("with a TAPE", x.fault(), NONE);
    }

    private static void noFault() {
        CHECK.about("Promise 19: NONE when the latest read() met none");
        Run x = Run.withBits(FINE);
        x.read();
        CHECK.due("fault", x.fault(), NONE);
        x.more(false);
        x.read();
        CHECK.due("with a bit more", x.fault(), 53);
        x.cut(53);
        x.read();
        CHECK.due("without it", x.fault(), NONE);
    }

    private static void faultAtNoBit() {
        CHECK.about("Promise 19: 0 when THE TAPE is empty, which is no NONE");
        Run x = new Run();
        CHECK.due("read", x.read(), -11);
        CHECK.due("fault", x.fault(), 0);
        x.more(true);
        x.read();
        CHECK.due("one bit", x.fault(), 1);
    }

    private static void faultAtTheLastBit() {
        CHECK.about("Promise 19: FAULT 1 is met when all bits had been read, 1500 at most");
        Run x = Run.withFullTape();
        CHECK.due("bits", x.told(5), 1500);
        CHECK.due("the whole", x.read(), 175);
        CHECK.due("no FAULT", x.fault(), NONE);
        // the END is another SYMBOL, behind which the bits end
        x.flip(1499);
        CHECK.due("read without the END", x.read(), -11);
        CHECK.due("all", x.fault(), 1500);
        x.cut(1499);
        CHECK.due("read one bit less", x.read(), -11);
        CHECK.due("all of them", x.fault(), 1499);
    }

    private static void latestFault() {
        CHECK.about("Promise 19: it is the latest read()'s, whatever else was called since");
        Run x = Run.withBits(FINE + "0");
        x.read();
        CHECK.due("fault", x.fault(), 53);
        CHECK.due("asked again", x.fault(), 53);
        x.cut(53);
        CHECK.due("behind cut", x.fault(), 53);
        x.sign(5);
        CHECK.due("behind sign", x.fault(), 53);
        x.write();
        CHECK.due("behind write", x.fault(), 53);
        x.flip(0);
        x.more(true);
        x.empty();
        CHECK.due("behind flip, more, empty", x.fault(), 53);
        CHECK.due("read", x.read(), -12);
        CHECK.due("the latest", x.fault(), 16);
    }
}
