/** Promises 9 to 12: taken, length, code, cost. */
public final class RoundsTest {
    private static final Check CHECK = new Check();

    public static void main(String[] args) {
        oneTable();
        tableWithoutKinds();
        twoTables();
        wrongNumbers();
        costs();
        CHECK.end();
    }

    /** SYMBOLS 0, 2, 2, 2, 3: weights 1, 1, 3, 1, so that equal ones go by their numbers. */
    private static void oneTable() {
        MoveFronts x = Check.alternating(10, 20, 4);
        lengths(x, 0, 0, 1, 1, 1, 1);
        for (int round = 1; round <= 4; round++) {
            CHECK.due("taken", x.taken(round, 0), 0);
            lengths(x, round, 0, 3, 3, 1, 2);
        }
        codes(x, 0, 6, 7, 0, 2);
        // 48 + 7 + 1, then 5 + 1 + 1 + 5 + 3 for the TABLE, 3 + 3 * 1 + 2 for the SYMBOLS
        CHECK.due("cost", x.cost(), 79);
    }

    /** 60 SYMBOLS, of which KIND 2 is 58: TABLE 1 should have 1 / 2, cut off, so it gets none. */
    private static void tableWithoutKinds() {
        MoveFronts x = Check.alternating(0, 1, 59);
        lengths(x, 0, 0, 1, 1, 1, 9);
        lengths(x, 0, 1, 9, 9, 9, 9);
        lengths(x, 0, 2, 9, 9, 9, 1);
        for (int round = 1; round <= 4; round++) {
            for (int group = 0; group < 6; group++) {
                CHECK.due("taken " + round + " " + group, x.taken(round, group), 0);
            }
            lengths(x, round, 0, 3, 3, 1, 2);
            lengths(x, round, 1, 2, 2, 2, 2);
            lengths(x, round, 2, 2, 2, 2, 2);
        }
        codes(x, 0, 6, 7, 0, 2);
        codes(x, 1, 0, 1, 2, 3);
        // 32 + 7 + 6, then 15 + 9 + 9 for the TABLES, 3 + 58 * 1 + 2 for the SYMBOLS
        CHECK.due("cost", x.cost(), 141);
        x.sign(1);
        CHECK.due("END alone", x.taken(1, 6), 2);
    }

    /** SYMBOLS: ten 2s, ten 3s, END 4; from ROUND 2 on both TABLES are as good for END alone. */
    private static void twoTables() {
        MoveFronts x = Check.twosAndThrees();
        for (int i = 0; i < 21; i++) {
            CHECK.due("symbol " + i, x.symbol(i), i < 10 ? 2 : i < 20 ? 3 : 4);
        }
        lengths(x, 0, 0, 1, 1, 1, 9, 9);
        lengths(x, 0, 1, 9, 9, 9, 1, 1);
        for (int round = 1; round <= 4; round++) {
            CHECK.due("2s", x.taken(round, 0), 0);
            CHECK.due("3s", x.taken(round, 1), 1);
            CHECK.due("END in ROUND " + round, x.taken(round, 2), round == 1 ? 1 : 0);
            lengths(x, round, 0, 3, 3, 1, 3, 3);
            lengths(x, round, 1, 3, 3, 3, 1, 3);
        }
        CHECK.due("no GROUP", x.taken(1, 3), MoveFronts.NONE);
        codes(x, 0, 4, 5, 0, 6, 7);
        codes(x, 1, 4, 5, 6, 0, 7);
        CHECK.due("cost", x.cost(), 32 + 7 + 5 + 18 + 18 + 23);
    }

    private static void wrongNumbers() {
        MoveFronts x = Check.alternating(3, 4, 25);
        int least = Integer.MIN_VALUE;
        int most = Integer.MAX_VALUE;
        for (int round : new int[] {least, -1, 0, 5, most}) {
            CHECK.due("taken in " + round, x.taken(round, 0), MoveFronts.OUTSIDE);
            CHECK.due("OUTSIDE first", x.taken(round, 99), MoveFronts.OUTSIDE);
        }
        for (int round : new int[] {least, -1, 5, most}) {
            CHECK.due("length in " + round, x.length(round, 0, 0), MoveFronts.OUTSIDE);
            CHECK.due("OUTSIDE first", x.length(round, 9, 99), MoveFronts.OUTSIDE);
        }
        for (int group : new int[] {least, -1, 3, most}) {
            CHECK.due("taken of " + group, x.taken(4, group), MoveFronts.NONE);
        }
        for (int table : new int[] {least, -1, 2, 3, most}) {
            CHECK.due("length of " + table, x.length(0, table, 0), MoveFronts.NONE);
            CHECK.due("code of " + table, x.code(table, 0), MoveFronts.NONE);
        }
        for (int kind : new int[] {least, -1, 4, 258, most}) {
            CHECK.due("length of KIND " + kind, x.length(4, 1, kind), MoveFronts.NONE);
            CHECK.due("code of KIND " + kind, x.code(1, kind), MoveFronts.NONE);
        }
        MoveFronts none = new MoveFronts();
        CHECK.due("taken without SIGNS", none.taken(0, 0), MoveFronts.OUTSIDE);
        CHECK.due("length without SIGNS", none.length(5, 0, 0), MoveFronts.OUTSIDE);
    }

    private static void costs() {
        CHECK.due("without SIGNS", new MoveFronts().cost(), MoveFronts.STATE);
        // SYMBOLS 0, 2 of KINDS 0, 1, 2, each weighing 1: LENGTHS 2, 2, 1
        MoveFronts x = Check.withSigns(255);
        lengths(x, 4, 0, 2, 2, 1);
        CHECK.due("of one SIGN", x.cost(), 32 + 7 + 1 + 5 + 1 + 1 + 3 + 3);
        x.empty();
        CHECK.due("emptied", x.cost(), MoveFronts.STATE);
        for (int i = 0; i < 300; i++) {
            x.sign(i * 7 % 256);
        }
        CHECK.due("above what THE TAPE takes", x.cost() > 1500);
        CHECK.due("THE TAPE is as before", x.told(5), 0);
    }

    private static void lengths(MoveFronts x, int round, int table, int... dues) {
        for (int kind = 0; kind < dues.length; kind++) {
            CHECK.due("length " + round + " " + table + " " + kind,
                x.length(round, table, kind), dues[kind]);
        }
        CHECK.due("no more KINDS", x.length(round, table, dues.length), MoveFronts.NONE);
    }

    private static void codes(MoveFronts x, int table, int... dues) {
        for (int kind = 0; kind < dues.length; kind++) {
            CHECK.due("code " + table + " " + kind, x.code(table, kind), dues[kind]);
        }
        CHECK.due("no more KINDS", x.code(table, dues.length), MoveFronts.NONE);
    }
}
