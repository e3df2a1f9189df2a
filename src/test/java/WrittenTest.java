/** 'Terms': THE TAPE, and how THE BLOCK is WRITTEN, from (a) to (e). */
public final class WrittenTest {
    private static final Check CHECK = new Check();

    public static void main(String[] args) {
        tapeByMore();
        tapeByWrite();
        oneSign();
        twoTables();
        threeTables();
        fields();
        signsOfOneField();
        allFields();
        tables();
        groups();
        choices();
        lengths();
        symbols();
        CHECK.end();
    }

    private static String bitsOf(Run x) {
        x.write();
        return x.bits();
    }

    /** Some of the bits that THE BLOCK is WRITTEN in. */
    private static String part(Run x, int from, int to) {
        x.write();
        StringBuilder text = new StringBuilder();
        for (int i = from; i < to; i++) {
            text.append(x.bit(i));
        }
        return text.toString();
    }

    private static void tapeByMore() {
        CHECK.about("Terms: THE TAPE is a row of bits, 1500 at most");
        Run x = Run.withFullTape();
        x.cut(1498);
        CHECK.due("the 1499th", x.more(true), 1499);
        CHECK.due("the 1500th", x.more(true), 1500);
        CHECK.due("the 1501st", x.more(true), MoveFronts.ROOM);
        CHECK.due("told", x.told(5), 1500);
        CHECK.due("bit 1499", x.bit(1499), 1);
        CHECK.due("bit 1500", x.bit(1500), MoveFronts.NONE);
    }

    private static void tapeByWrite() {
        CHECK.about("Terms: THE TAPE is a row of bits, 1500 at most, WRITTEN too");
        Run fits = Run.inFullTape();
        CHECK.due("cost", fits.cost(), 1500);
        CHECK.due("write", fits.write(), 1500);
        CHECK.due("told", fits.told(5), 1500);
        Run over = Run.beyondFullTape();
        CHECK.due("cost", over.cost(), 1501);
        CHECK.due("write", over.write(), MoveFronts.ROOM);
        CHECK.due("told", over.told(5), 0);
    }

    private static void oneSign() {
        CHECK.about("Terms: WRITTEN, the shortest: one SIGN");
        String due = "0000000000000001 0000000000000001" + "01 00001" + "0" + "00010 0 0 110" + "10 0";
        Run x = Run.withSigns(255);
        CHECK.due("cost", x.cost(), Run.countBits(due));
        CHECK.due("the bits", bitsOf(x), due);
        CHECK.due("of SIGN 0", bitsOf(Run.withSigns(0)), "1000000000000000 1000000000000000" + due.substring(33));
    }

    private static void twoTables() {
        CHECK.about("Terms: WRITTEN, all of two TABLES");
        CHECK.due("the bits", bitsOf(Run.twoTables()), "1000000000000000 1110000000000000"
            + "10 00011"
            + "0 10 10"
            + "00011 0 0 11110 10100 0"
            + "00011 0 0 0 11110 10100"
            + "0000000000 0000000000 111");
    }

    private static void threeTables() {
        CHECK.about("Terms: WRITTEN, all of three TABLES");
        CHECK.due("the bits", bitsOf(Run.threeTables()), "1000000000000000 1111000000000000"
            + "11 00110"
            + "0 0 0 10 0 110"
            + "00100 0 0 1111110 10100 0 0"
            + "00100 0 0 0 1111110 100 10100"
            + "00100 0 0 110 0 11110 10100"
            + "0000000000 0000000000 0000000000 0000000000 00000 1010101010 000000000 110");
    }

    private static void fields() {
        CHECK.about("Terms: WRITTEN (a), whether it has SIGNS 0 to 15, 16 to 31, and so on");
        int[] signs = {0, 15, 16, 31, 32, 127, 128, 239, 240, 255};
        for (int v : signs) {
            String due = "0".repeat(v / 16) + "1" + "0".repeat(15 - v / 16) + "0".repeat(v % 16) + "1" + "0".repeat(15 - v % 16);
            CHECK.due("SIGN " + v, part(Run.withSigns(v), 0, 32), due);
        }
    }

    private static void signsOfOneField() {
        CHECK.about("Terms: WRITTEN (a), 16 bits more for each 16 that it has SIGNS of, in order");
        CHECK.due("15, 16, 255", part(Run.withSigns(255, 16, 15), 0, 64),
            "1100000000000001 0000000000000001 1000000000000000 0000000000000001");
        CHECK.due("0 and 15", part(Run.withSigns(15, 0, 15), 0, 34), "1000000000000000 1000000000000001 01");
        Run all = Run.withPlaces(16, 16, 15);
        CHECK.due("0 to 15", part(all, 0, 34), "1000000000000000 1111111111111111 01");
        CHECK.due("0 to 16", part(Run.withPlaces(17, 17, 16), 0, 50),
            "1100000000000000 1111111111111111 1000000000000000 01");
    }

    private static void allFields() {
        CHECK.about("Terms: WRITTEN (a), at most 16 times 16 bits behind the first 16");
        Run x = new Run();
        for (int field = 0; field < 16; field++) {
            x.sign(field * 16 + field);
        }
        StringBuilder due = new StringBuilder("1".repeat(16));
        for (int field = 0; field < 16; field++) {
            due.append("0".repeat(field)).append('1').append("0".repeat(15 - field));
        }
        CHECK.due("a SIGN in each", part(x, 0, 279), due + "01 00010");
    }

    private static void tables() {
        CHECK.about("Terms: WRITTEN (b), how many TABLES, in 2 bits");
        CHECK.due("19 SYMBOLS", part(Run.alternating(0, 1, 18), 32, 34), "01");
        CHECK.due("20 SYMBOLS", part(Run.alternating(0, 1, 19), 32, 34), "10");
        CHECK.due("59 SYMBOLS", part(Run.alternating(0, 1, 58), 32, 34), "10");
        CHECK.due("60 SYMBOLS", part(Run.alternating(0, 1, 59), 32, 34), "11");
    }

    private static void groups() {
        CHECK.about("Terms: WRITTEN (b), how many GROUPS, in 5 bits");
        CHECK.due("10 SYMBOLS", part(Run.alternating(0, 1, 9), 34, 39), "00001");
        CHECK.due("11 SYMBOLS", part(Run.alternating(0, 1, 10), 34, 39), "00010");
        CHECK.due("160 SYMBOLS", part(Run.alternating(0, 1, 159), 34, 39), "10000");
        CHECK.due("300 SYMBOLS", part(Run.alternating(0, 1, 299), 34, 39), "11110");
        CHECK.due("301 SYMBOLS", part(Run.alternating(0, 1, 300), 34, 39), "11111");
    }

    private static void choices() {
        CHECK.about("Terms: WRITTEN (c), the PLACE of the TABLE as many 1s, then a 0; it comes to the front");
        // TABLES 0, 0, 0, 1, 1, 2
        CHECK.due("0, 1, 2", part(Run.threeTables(), 39, 48), "0 0 0 10 0 110");
        // the same SYMBOLS in another order: TABLES 2, 1, 0, 0, 0 and END
        Run x = Run.withPlaces(4, 20, 3, 20, 2, 30, 1);
        String taken = "";
        int groups = x.told(3);
        for (int group = 0; group < groups; group++) {
            taken += x.taken(4, group);
        }
        CHECK.due("TABLES", taken, "22110000");
        CHECK.due("2, 1, 0", part(x, 39, 53), "110 0 110 0 110 0 0 0");
        // TABLE 1, then TABLE 0 twice and TABLE 1 again
        Run y = Run.withPlaces(3, 10, 2, 20, 1, 9, 2);
        taken = "";
        for (int group = 0; group < 4; group++) {
            taken += y.taken(4, group);
        }
        CHECK.due("TABLES", taken, "1001");
        CHECK.due("1, 0, 0, 1", part(y, 39, 46), "10 10 0 10");
    }

    private static void lengths() {
        CHECK.about("Terms: WRITTEN (d), KIND 0's LENGTH in 5 bits, then each: 10 for more, 11 for less, then 0");
        // LENGTHS 2, 2, 1
        CHECK.due("less", part(Run.withSigns(0), 40, 50), "00010 0 0 110");
        // LENGTHS 3, 3, 1, 2
        CHECK.due("less and more", part(Run.alternating(10, 20, 4), 56, 71), "00011 0 0 11110 100");
        // LENGTHS 2, 2, 2, 2
        CHECK.due("the same", part(Run.withSigns(0, 1, 1, 0), 40, 49), "00010 0 0 0 0");
        // SYMBOLS 0 six times, 2 five times, END: LENGTHS 1, 3, 2, 3
        Run x = Run.withSigns(0, 1, 1, 0, 0, 1, 1, 0, 0, 1, 1);
        CHECK.due("KIND 0 of LENGTH 1", part(x, 41, 58), "00001 0 10100 110 100");
    }

    private static void symbols() {
        CHECK.about("Terms: WRITTEN (e), for each SYMBOL its CODE in the TABLE of its GROUP, the END last");
        CHECK.due("0, END", part(Run.withSigns(0), 50, 53), "10 0");
        CHECK.due("0, 2, 2, 2, END", part(Run.alternating(10, 20, 4), 71, 79), "110 0 0 0 10");
        // TABLE 0 has 2: 0, TABLE 1 has 3: 0, TABLE 0 has END: 111
        CHECK.due("2s, 3s, END", part(Run.twoTables(), 80, 103), "0000000000 0000000000 111");
    }
}
