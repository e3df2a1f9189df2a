/** Promises 9 to 12: taken, length, code, cost. */
public final class RoundsTest {
    private static final int NONE = MoveFronts.NONE, OUTSIDE = MoveFronts.OUTSIDE, STATE = MoveFronts.STATE;
    private static final int[] FAR = {Check.LEAST, -258, -2, -1, 258, 301, Check.MOST};
    private static final Check CHECK = new Check();

    public static void main(String[] args) {
        takenRounds();
        takenGroups();
        takenOfNoneAndFull();
        takenOutsideFirst();
        lengthRounds();
        lengthTables();
        lengthKinds();
        lengthOfNoneAndFull();
        lengthOutsideFirst();
        codeBehindRound4();
        codeTables();
        codeKinds();
        codeOfNoneAndFull();
        costs();
        costOfNone();
        costBeyondTheTape();
        costChangesNothing();
        CHECK.end();
    }

    private static void takenRounds() {
        CHECK.about("Promise 9: in a ROUND, 1 to 4; OUTSIDE below and above");
        Run x = Run.twoTables();
        int[] dues = {1, 0, 0, 0};
        for (int round = 1; round <= 4; round++) {
            CHECK.due("2s in ROUND " + round, x.taken(round, 0), 0);
            CHECK.due("3s in ROUND " + round, x.taken(round, 1), 1);
            CHECK.due("END in ROUND " + round, x.taken(round, 2), dues[round - 1]);
        }
        for (int round : new int[] {Check.LEAST, -1, 0, 5, 6, Check.MOST}) {
            CHECK.due("ROUND " + round, x.taken(round, 0), OUTSIDE);
        }
    }

    private static void takenGroups() {
        CHECK.about("Promise 9: NONE, there is no such GROUP");
        Run x = Run.twoTables();
        for (int round = 1; round <= 4; round++) {
            CHECK.due("GROUP 2", x.taken(round, 2) >= 0);
            CHECK.due("GROUP 3", x.taken(round, 3), NONE);
            for (int group : FAR) {
                CHECK.due("GROUP " + group, x.taken(round, group), NONE);
            }
        }
    }

    private static void takenOfNoneAndFull() {
        CHECK.about("Promise 9: NONE of an empty BLOCK; GROUPS 0 to 30 of a full one");
        CHECK.due("empty", new Run().taken(1, 0), NONE);
        CHECK.due("empty in ROUND 4", new Run().taken(4, 0), NONE);
        Run one = Run.withSigns(5);
        CHECK.due("one", one.taken(1, 0), 0);
        CHECK.due("one, no more", one.taken(1, 1), NONE);
        // 299 times KIND 2 for TABLE 0; the END alone is TABLE 2's own in ROUND 0
        Run x = Run.alternating(0, 1, 300);
        CHECK.due("GROUP 0", x.taken(1, 0), 0);
        CHECK.due("GROUP 29", x.taken(1, 29), 0);
        CHECK.due("GROUP 30", x.taken(1, 30), 2);
        CHECK.due("GROUP 31", x.taken(1, 31), NONE);
        x.empty();
        CHECK.due("emptied", x.taken(1, 0), NONE);
    }

    private static void takenOutsideFirst() {
        CHECK.about("Promise 9: OUTSIDE comes ahead of NONE");
        Run[] runs = {new Run(), Run.withSigns(5), Run.twoTables()};
        for (Run x : runs) {
            CHECK.due("ROUND 0, no GROUP", x.taken(0, 99), OUTSIDE);
            CHECK.due("ROUND 5, no GROUP", x.taken(5, -1), OUTSIDE);
            CHECK.due("ROUND 0, GROUP 0", x.taken(0, 0), OUTSIDE);
        }
    }

    private static void lengthRounds() {
        CHECK.about("Promise 10: behind a ROUND, 0 to 4; OUTSIDE below and above");
        Run x = Run.threeTables();
        int[][] first = {{1, 1, 1, 9, 9, 9}, {9, 9, 9, 1, 9, 9}, {9, 9, 9, 9, 1, 1}};
        int[][] others = {{4, 4, 1, 3, 3, 3}, {4, 4, 4, 1, 2, 4}, {4, 4, 3, 3, 1, 3}};
        for (int round = 0; round <= 4; round++) {
            for (int table = 0; table < 3; table++) {
                for (int kind = 0; kind < 6; kind++) {
                    CHECK.due("length " + round + " " + table + " " + kind,
                        x.length(round, table, kind), (round == 0 ? first : others)[table][kind]);
                }
            }
        }
        for (int round : new int[] {Check.LEAST, -2, -1, 5, 6, Check.MOST}) {
            CHECK.due("ROUND " + round, x.length(round, 0, 0), OUTSIDE);
        }
    }

    private static void lengthTables() {
        CHECK.about("Promise 10: NONE, there is no such TABLE");
        Run[] runs = {Run.withSigns(5), Run.twoTables(), Run.threeTables()};
        for (int k = 0; k < runs.length; k++) {
            for (int round = 0; round <= 4; round++) {
                CHECK.due("the last of " + (k + 1), runs[k].length(round, k, 0) >= 1);
                CHECK.due("one more than " + (k + 1), runs[k].length(round, k + 1, 0), NONE);
                for (int table : FAR) {
                    CHECK.due("TABLE " + table, runs[k].length(round, table, 0), NONE);
                }
            }
        }
    }

    private static void lengthKinds() {
        CHECK.about("Promise 10: NONE, there is no such KIND");
        Run x = Run.threeTables();
        for (int round = 0; round <= 4; round++) {
            for (int table = 0; table < 3; table++) {
                CHECK.due("KIND 5", x.length(round, table, 5) >= 1);
                CHECK.due("KIND 6", x.length(round, table, 6), NONE);
                for (int kind : FAR) {
                    CHECK.due("KIND " + kind, x.length(round, table, kind), NONE);
                }
            }
        }
    }

    private static void lengthOfNoneAndFull() {
        CHECK.about("Promise 10: NONE of an empty BLOCK; KINDS 0 to 257 of all SIGNS");
        for (int round = 0; round <= 4; round++) {
            CHECK.due("empty", new Run().length(round, 0, 0), NONE);
            CHECK.due("empty, KIND 1", new Run().length(round, 0, 1), NONE);
        }
        Run x = Run.falling(300);
        // KIND 256 comes 300 times: it and all ahead are TABLE 0's, END is TABLE 2's
        CHECK.due("KIND 0 in 0", x.length(0, 0, 0), 1);
        CHECK.due("KIND 256 in 0", x.length(0, 0, 256), 1);
        CHECK.due("KIND 257 in 0", x.length(0, 0, 257), 9);
        CHECK.due("KIND 257 in 2", x.length(0, 2, 257), 1);
        CHECK.due("KIND 258", x.length(0, 2, 258), NONE);
        // TABLE 1 is nobody's: 258 KINDS of weight 1, of which 4 are of LENGTH 9, the first ones
        CHECK.due("KIND 0 in 1", x.length(4, 1, 0), 9);
        CHECK.due("KIND 3 in 1", x.length(4, 1, 3), 9);
        CHECK.due("KIND 4 in 1", x.length(4, 1, 4), 8);
        CHECK.due("KIND 257 in 1", x.length(4, 1, 257), 8);
        x.empty();
        CHECK.due("emptied", x.length(4, 0, 0), NONE);
    }

    private static void lengthOutsideFirst() {
        CHECK.about("Promise 10: OUTSIDE comes ahead of NONE");
        Run[] runs = {new Run(), Run.withSigns(5), Run.twoTables()};
        for (Run x : runs) {
            CHECK.due("ROUND -1, no TABLE", x.length(-1, 3, 0), OUTSIDE);
            CHECK.due("ROUND 5, no KIND", x.length(5, 0, -1), OUTSIDE);
            CHECK.due("ROUND 5", x.length(5, 0, 0), OUTSIDE);
        }
    }

    private static void codeBehindRound4() {
        CHECK.about("Promise 11: the CODE, as a number, behind ROUND 4");
        Run x = Run.threeTables();
        int[][] dues = {{14, 15, 0, 4, 5, 6}, {12, 13, 14, 0, 2, 15}, {14, 15, 4, 5, 0, 6}};
        for (int table = 0; table < 3; table++) {
            for (int kind = 0; kind < 6; kind++) {
                CHECK.due("code " + table + " " + kind, x.code(table, kind), dues[table][kind]);
            }
        }
    }

    private static void codeTables() {
        CHECK.about("Promise 11: NONE, there is no such TABLE");
        Run[] runs = {Run.withSigns(5), Run.twoTables(), Run.threeTables()};
        for (int k = 0; k < runs.length; k++) {
            CHECK.due("the last of " + (k + 1), runs[k].code(k, 0) >= 0);
            CHECK.due("one more than " + (k + 1), runs[k].code(k + 1, 0), NONE);
            for (int table : FAR) {
                CHECK.due("TABLE " + table, runs[k].code(table, 0), NONE);
            }
        }
    }

    private static void codeKinds() {
        CHECK.about("Promise 11: NONE, there is no such KIND");
        Run x = Run.threeTables();
        for (int table = 0; table < 3; table++) {
            CHECK.due("KIND 5", x.code(table, 5) >= 0);
            CHECK.due("KIND 6", x.code(table, 6), NONE);
            for (int kind : FAR) {
                CHECK.due("KIND " + kind, x.code(table, kind), NONE);
            }
        }
    }

    private static void codeOfNoneAndFull() {
        CHECK.about("Promise 11: NONE of an empty BLOCK; KINDS 0 to 257 of all SIGNS");
        CHECK.due("empty", new Run().code(0, 0), NONE);
        Run x = Run.falling(300);
        // 254 CODES of 8 bits for KINDS 4 to 257, then four of 9 bits
        CHECK.due("KIND 4 in 1", x.code(1, 4), 0);
        CHECK.due("KIND 257 in 1", x.code(1, 257), 253);
        CHECK.due("KIND 0 in 1", x.code(1, 0), 508);
        CHECK.due("KIND 3 in 1", x.code(1, 3), 511);
        CHECK.due("KIND 256 in 0", x.code(0, 256), 0);
        CHECK.due("KIND 258", x.code(0, 258), NONE);
        x.empty();
        CHECK.due("emptied", x.code(0, 0), NONE);
    }

    private static void costs() {
        CHECK.about("Promise 12: how many bits THE BLOCK is WRITTEN in");
        // SYMBOLS 0, 2 of KINDS 0, 1, 2, each weighing 1: LENGTHS 2, 2, 1
        CHECK.due("one SIGN", Run.withSigns(255).cost(), 32 + 7 + 1 + 5 + 1 + 1 + 3 + 3);
        CHECK.due("four SIGNS of two fields", Run.alternating(10, 20, 4).cost(), 48 + 7 + 1 + 15 + 8);
        CHECK.due("two TABLES", Run.twoTables().cost(), 32 + 7 + 5 + 18 + 18 + 23);
        CHECK.due("three TABLES", Run.threeTables().cost(), 32 + 7 + 9 + 21 + 23 + 21 + 30 + 10 + 15 + 12);
        CHECK.due("a TABLE without KINDS", Run.alternating(0, 1, 59).cost(), 32 + 7 + 6 + 15 + 9 + 9 + 63);
    }

    private static void costOfNone() {
        CHECK.about("Promise 12: STATE, THE BLOCK has no SIGNS");
        Run x = new Run();
        CHECK.due("new", x.cost(), STATE);
        x.more(true);
        CHECK.due("with a TAPE", x.cost(), STATE);
        x.sign(0);
        CHECK.due("one SIGN", x.cost(), 53);
        x.empty();
        CHECK.due("emptied", x.cost(), STATE);
    }

    private static void costBeyondTheTape() {
        CHECK.about("Promise 12: no ROOM is asked for, also above what THE TAPE takes");
        CHECK.due("1500", Run.inFullTape().cost(), 1500);
        CHECK.due("1501", Run.beyondFullTape().cost(), 1501);
        CHECK.due("a full BLOCK", Run.farBeyondFullTape().cost() > 2000);
        Run full = Run.withFullTape();
        CHECK.due("a full TAPE", full.cost(), 1500);
    }

    private static void costChangesNothing() {
        CHECK.about("Promise 12: THE TAPE stays as it is");
        Run x = Run.twoTables();
        x.addBits("1011");
        CHECK.due("cost", x.cost(), 103);
        CHECK.due("cost again", x.cost(), 103);
        CHECK.due("THE TAPE", x.bits(), "1011");
        x.write();
        CHECK.due("cost of what was WRITTEN", x.cost(), 103);
        CHECK.due("bits", x.told(5), 103);
    }
}
