/** 'Terms', from SIGNS to CODES: the bounds that each sentence names, and what an empty BLOCK has. */
public final class TermsTest {
    private static final int NONE = MoveFronts.NONE, OUTSIDE = MoveFronts.OUTSIDE, ROOM = MoveFronts.ROOM;
    private static final Check CHECK = new Check();

    public static void main(String[] args) {
        calls();
        signs();
        blockBySigns();
        blockByReading();
        mapSizes();
        mapOrder();
        places();
        greatestPlace();
        noSymbols();
        rowsOfZeros();
        rowsStartAnew();
        symbolsOfPlaces();
        symbolCounts();
        kinds();
        kindsThatDoNotCome();
        groupSizes();
        lastGroup();
        tableCounts();
        shareIsReached();
        shareIsMissed();
        shareIsCutOff();
        shareOfWhatIsLeft();
        shareOfNothing();
        oneTableHasAll();
        bestTable();
        allSymbolsOfAGroup();
        equalTables();
        weightsOfOne();
        equalWeights();
        joinedOnesComeLast();
        roundsDiffer();
        firstCode();
        codesByLength();
        CHECK.end();
    }

    private static void calls() {
        CHECK.about("What it is: at most 512 calls; the 512th is still answered");
        Run x = Run.falling(300);
        for (int i = 1; i < 212; i++) {
            x.more(i % 3 == 0);
        }
        CHECK.due("calls left", x.callsLeft(), 1);
        CHECK.due("the last more", x.more(true), 212);
        Run y = Run.falling(300);
        for (int i = 1; i < 212; i++) {
            y.symbol(i);
        }
        CHECK.due("the last symbol", y.symbol(300), 257);
    }

    private static void signs() {
        CHECK.about("Terms: SIGNS are 0 to 255");
        Run x = new Run();
        CHECK.due("sign the least", x.sign(0), 1);
        CHECK.due("sign the greatest", x.sign(255), 2);
        for (int v : new int[] {-1, 256, -255, -256, 257, 511, 512, 65536, Check.LEAST, Check.MOST}) {
            CHECK.due("sign " + v, x.sign(v), OUTSIDE);
        }
        CHECK.due("at 0", x.at(0), 0);
        CHECK.due("at 1", x.at(1), 255);
        CHECK.due("at 2", x.at(2), NONE);
    }

    private static void blockBySigns() {
        CHECK.about("Terms: THE BLOCK is a row of SIGNS, 300 at most");
        Run x = Run.falling(298);
        CHECK.due("the 299th", x.sign(1), 299);
        CHECK.due("the 300th", x.sign(2), 300);
        CHECK.due("the 301st", x.sign(3), ROOM);
        CHECK.due("again", x.sign(3), ROOM);
        CHECK.due("told", x.told(0), 300);
        CHECK.due("at 299", x.at(299), 2);
        CHECK.due("at 300", x.at(300), NONE);
    }

    private static void blockByReading() {
        CHECK.about("Terms: THE BLOCK is a row of SIGNS, 300 at most, read too");
        Run x = Run.alternating(7, 9, 300);
        x.write();
        x.empty();
        CHECK.due("read", x.read(), 300);
        CHECK.due("at 299", x.at(299), 9);
        CHECK.due("the 301st behind it", x.sign(3), ROOM);
        // 2 + 4 + .. + 128, then 46 more: 300; one more is 301
        String most = Tapes.TWO + Tapes.PLAIN + Tapes.EVEN + "01 00 01 01 00 01 00 00";
        CHECK.due("300", Run.withBits(most + "11").read(), 300);
        CHECK.due("301", Run.withBits(most + "10 11").read(), -18);
    }

    private static void mapSizes() {
        CHECK.about("Terms: THE MAP has n SIGNS: none, one, all 256");
        Run none = new Run();
        CHECK.due("n of none", none.told(1), 0);
        CHECK.due("map 0 of none", none.map(0), NONE);
        Run one = Run.repeating(255, 300);
        CHECK.due("n of one", one.told(1), 1);
        CHECK.due("map 0 of one", one.map(0), 255);
        CHECK.due("map 1 of one", one.map(1), NONE);
        CHECK.due("n of 255", Run.falling(255).told(1), 255);
        Run all = Run.falling(256);
        CHECK.due("n of all", all.told(1), 256);
        for (int i = 0; i < 200; i++) {
            CHECK.due("map " + i, all.map(i), i);
        }
        CHECK.due("map 255", all.map(255), 255);
        CHECK.due("map 256", all.map(256), NONE);
        CHECK.due("n of all and some twice", Run.falling(300).told(1), 256);
    }

    private static void mapOrder() {
        CHECK.about("Terms: THE MAP is in order, whatever order the SIGNS came in");
        Run x = Run.withSigns(255, 0, 128, 127, 0, 255, 1, 254);
        int[] dues = {0, 1, 127, 128, 254, 255, NONE};
        for (int i = 0; i < dues.length; i++) {
            CHECK.due("map " + i, x.map(i), dues[i]);
        }
    }

    private static void places() {
        CHECK.about("Terms: PLACES in THE LIST, from 0 on; a SIGN comes to its front");
        // THE LIST is 3 5 8, then 8 3 5, 8 3 5, 5 8 3, 8 5 3, 3 8 5, 3 8 5
        Run x = Run.withSigns(8, 8, 5, 8, 3, 3);
        int[] dues = {2, 0, 2, 1, 2, 0, NONE};
        for (int i = 0; i < dues.length; i++) {
            CHECK.due("place " + i, x.place(i), dues[i]);
        }
        CHECK.due("the least at first", Run.withSigns(3, 5, 8).place(0), 0);
        CHECK.due("the greatest at first", Run.withSigns(8, 5, 3).place(0), 2);
        x.sign(4);
        CHECK.due("a SIGN of a new MAP moves those ahead", x.place(0), 3);
    }

    private static void greatestPlace() {
        CHECK.about("Terms: the greatest PLACE is n - 1, 255 at most");
        Run x = Run.falling(300);
        CHECK.due("the first", x.place(0), 255);
        CHECK.due("the 256th", x.place(255), 255);
        CHECK.due("the last", x.place(299), 255);
        Run two = Run.alternating(9, 4, 2);
        CHECK.due("of two", two.place(0), 1);
        CHECK.due("of two, the other", two.place(1), 1);
        CHECK.due("of one", Run.withSigns(200).place(0), 0);
    }

    private static void noSymbols() {
        CHECK.about("Terms: no SYMBOLS without SIGNS, and no GROUPS and TABLES then");
        Run x = new Run();
        for (int turn = 0; turn < 2; turn++) {
            CHECK.due("SYMBOLS", x.told(2), 0);
            CHECK.due("GROUPS", x.told(3), 0);
            CHECK.due("TABLES", x.told(4), 0);
            CHECK.due("symbol 0", x.symbol(0), NONE);
            CHECK.due("taken", x.taken(1, 0), NONE);
            CHECK.due("length", x.length(0, 0, 0), NONE);
            CHECK.due("length behind ROUND 4", x.length(4, 0, 1), NONE);
            CHECK.due("code", x.code(0, 0), NONE);
            x.sign(4);
            CHECK.due("SYMBOLS of one", x.told(2), 2);
            CHECK.due("code of one", x.code(0, 2), 0);
            x.empty();
        }
    }

    private static void rowsOfZeros() {
        CHECK.about("Terms: r PLACES 0 are a row of 0s and 1s that count 1 and 2 times 2 to the i");
        String[] dues = {"1:0", "2:1", "3:00", "4:10", "5:01", "6:11", "7:000", "8:100", "13:011", "14:111",
            "15:0000", "30:1111", "31:00000", "62:11111", "63:000000", "126:111111", "127:0000000",
            "254:1111111", "255:00000000", "256:10000000", "299:00110100", "300:10110100"};
        for (String due : dues) {
            String[] parts = due.split(":");
            Run x = Run.repeating(77, Integer.parseInt(parts[0]));
            StringBuilder got = new StringBuilder();
            int many = x.told(2);
            for (int i = 0; i < many - 1; i++) {
                got.append(x.symbol(i));
            }
            CHECK.due("r = " + parts[0], got.toString(), parts[1]);
            CHECK.due("END", x.symbol(many - 1), 2);
        }
    }

    private static void rowsStartAnew() {
        CHECK.about("Terms: only PLACES 0 side by side are one row; another PLACE ends it");
        Run x = Run.withSigns(1, 1, 1, 2, 2, 2, 2, 1, 2, 2);
        int[] dues = {0, 0, 2, 0, 0, 2, 2, 0, 3, NONE};
        for (int i = 0; i < dues.length; i++) {
            CHECK.due("symbol " + i, x.symbol(i), dues[i]);
        }
    }

    private static void symbolsOfPlaces() {
        CHECK.about("Terms: another PLACE p is the SYMBOL p + 1; the END is n + 1");
        Run two = Run.withSigns(6, 5);
        CHECK.due("PLACE 1", two.symbol(0), 2);
        CHECK.due("END of two", two.symbol(2), 3);
        Run one = Run.withSigns(6);
        CHECK.due("PLACE 0", one.symbol(0), 0);
        CHECK.due("END of one", one.symbol(1), 2);
        Run all = Run.falling(300);
        CHECK.due("PLACE 255", all.symbol(0), 256);
        CHECK.due("PLACE 255 at the end", all.symbol(299), 256);
        CHECK.due("END of all", all.symbol(300), 257);
    }

    private static void symbolCounts() {
        CHECK.about("Terms: SYMBOLS are 2 at least, 301 at most");
        Run one = Run.withSigns(0);
        CHECK.due("of one SIGN", one.told(2), 2);
        CHECK.due("symbol 2", one.symbol(2), NONE);
        Run most = Run.falling(300);
        CHECK.due("of 300 SIGNS", most.told(2), 301);
        CHECK.due("symbol 301", most.symbol(301), NONE);
        CHECK.due("of one SIGN 300 times", Run.repeating(0, 300).told(2), 9);
    }

    private static void kinds() {
        CHECK.about("Terms: KINDS of SYMBOLS are 0 to n + 1");
        Run[] runs = {Run.withSigns(9), Run.withSigns(9, 8), Run.falling(255), Run.falling(300)};
        int[] ns = {1, 2, 255, 256};
        for (int k = 0; k < runs.length; k++) {
            Run x = runs[k];
            for (int round = 0; round <= 4; round++) {
                String of = "n = " + ns[k] + ", ROUND " + round + ": length of KIND ";
                CHECK.due(of + "-1", x.length(round, 0, -1), NONE);
                CHECK.due(of + "0", x.length(round, 0, 0) >= 1);
                CHECK.due(of + "n + 1", x.length(round, 0, ns[k] + 1) >= 1);
                CHECK.due(of + "n + 2", x.length(round, 0, ns[k] + 2), NONE);
            }
            CHECK.due("code of KIND -1", x.code(0, -1), NONE);
            CHECK.due("code of KIND 0", x.code(0, 0) >= 0);
            CHECK.due("code of KIND n + 1", x.code(0, ns[k] + 1) >= 0);
            CHECK.due("code of KIND n + 2", x.code(0, ns[k] + 2), NONE);
        }
    }

    private static void kindsThatDoNotCome() {
        CHECK.about("Terms: KINDS are also those that do not come");
        // SYMBOLS 2, 2, 3: KINDS 0 and 1 weigh 1 each
        Run x = Run.withSigns(6, 5);
        lengths(x, 0, 0, 1, 1, 1, 1);
        lengths(x, 4, 0, 2, 2, 2, 2);
        codes(x, 0, 0, 1, 2, 3);
    }

    private static void groupSizes() {
        CHECK.about("Terms: GROUPS are of 10 SYMBOLS each");
        int[][] dues = {{9, 1}, {10, 1}, {11, 2}, {19, 2}, {20, 2}, {21, 3}, {290, 29}, {291, 30}, {300, 30}, {301, 31}};
        for (int[] due : dues) {
            Run x = Run.alternating(3, 250, due[0] - 1);
            CHECK.due("SYMBOLS", x.told(2), due[0]);
            CHECK.due("GROUPS of " + due[0], x.told(3), due[1]);
            CHECK.due("the last GROUP of " + due[0], x.taken(4, due[1] - 1) >= 0);
            CHECK.due("one GROUP more of " + due[0], x.taken(4, due[1]), NONE);
        }
        // SYMBOLS 9 and 10 are in two GROUPS: TABLE 0 is the better one for 2s, TABLE 1 for 3s
        Run x = Run.twoTables();
        CHECK.due("ten 2s", x.taken(1, 0), 0);
        CHECK.due("ten 3s", x.taken(1, 1), 1);
        // with one 2 less, END is the tenth of the second GROUP
        CHECK.due("no third GROUP", Run.withPlaces(3, 9, 1, 10, 2).taken(1, 2), NONE);
    }

    private static void lastGroup() {
        CHECK.about("Terms: the last GROUP is of what is left");
        // END alone, which is TABLE 1's own in ROUND 0
        CHECK.due("END alone", Run.twoTables().taken(1, 2), 1);
        // nine 3s and END
        CHECK.due("nine and END", Run.withPlaces(3, 10, 1, 9, 2).taken(1, 1), 1);
    }

    private static void tableCounts() {
        CHECK.about("Terms: TABLES are 1 with fewer than 20 SYMBOLS, 2 with fewer than 60, else 3");
        int[][] dues = {{2, 1}, {10, 1}, {18, 1}, {19, 1}, {20, 2}, {21, 2}, {58, 2}, {59, 2}, {60, 3}, {61, 3}, {301, 3}};
        for (int[] due : dues) {
            Run x = Run.alternating(3, 250, due[0] - 1);
            String of = " with " + due[0] + " SYMBOLS";
            CHECK.due("SYMBOLS", x.told(2), due[0]);
            CHECK.due("TABLES" + of, x.told(4), due[1]);
            CHECK.due("LENGTH in the last" + of, x.length(4, due[1] - 1, 0) >= 1);
            CHECK.due("LENGTH in one more" + of, x.length(4, due[1], 0), NONE);
            CHECK.due("CODE in the last" + of, x.code(due[1] - 1, 0) >= 0);
            CHECK.due("CODE in one more" + of, x.code(due[1], 0), NONE);
        }
    }

    private static void shareIsReached() {
        CHECK.about("Terms: ROUND 0, a TABLE gets no more KINDS when they come as often as it should");
        // 10 of 20 SYMBOLS are KIND 2
        Run x = Run.withPlaces(3, 10, 1, 9, 2);
        lengths(x, 0, 0, 1, 1, 1, 9, 9);
        lengths(x, 0, 1, 9, 9, 9, 1, 1);
        // KIND 0 comes 10 times of 20, so KIND 1, which never does, is TABLE 1's
        Run y = zerosAndTwos();
        CHECK.due("SYMBOLS", y.told(2), 20);
        lengths(y, 0, 0, 1, 9, 9, 9);
        lengths(y, 0, 1, 9, 1, 1, 1);
    }

    /** SYMBOLS 0, 2, 0, 2, .. 0, END 3: ten 0s, nine 2s. */
    private static Run zerosAndTwos() {
        Run x = new Run();
        for (int i = 0; i < 19; i++) {
            x.sign((i + 1) / 2 % 2);
        }
        return x;
    }

    private static void shareIsMissed() {
        CHECK.about("Terms: ROUND 0, a TABLE gets one more KIND as long as they come less often than it should");
        // 9 of 20 SYMBOLS are KIND 2: KIND 3 is TABLE 0's too
        Run x = Run.withPlaces(3, 9, 1, 10, 2);
        lengths(x, 0, 0, 1, 1, 1, 1, 9);
        lengths(x, 0, 1, 9, 9, 9, 9, 1);
    }

    private static void shareIsCutOff() {
        CHECK.about("Terms: ROUND 0, as often as it should is cut off");
        // 21 / 2 is 10, and KIND 2 comes 10 times
        Run x = Run.twoTables();
        CHECK.due("SYMBOLS", x.told(2), 21);
        lengths(x, 0, 0, 1, 1, 1, 9, 9);
        lengths(x, 0, 1, 9, 9, 9, 1, 1);
        // 62 / 3 is 20, then 42 / 2 is 21; KINDS 2, 3, 4 come 20, 21, 20 times
        Run y = Run.withPlaces(4, 20, 1, 21, 2, 20, 3);
        CHECK.due("SYMBOLS", y.told(2), 62);
        lengths(y, 0, 0, 1, 1, 1, 9, 9, 9);
        lengths(y, 0, 1, 9, 9, 9, 1, 9, 9);
        lengths(y, 0, 2, 9, 9, 9, 9, 1, 1);
        // 61 / 3 is 20, then 41 / 2 is 20
        Run z = Run.withPlaces(4, 20, 1, 20, 2, 20, 3);
        CHECK.due("SYMBOLS", z.told(2), 61);
        lengths(z, 0, 0, 1, 1, 1, 9, 9, 9);
        lengths(z, 0, 1, 9, 9, 9, 1, 9, 9);
        lengths(z, 0, 2, 9, 9, 9, 9, 1, 1);
    }

    private static void shareOfWhatIsLeft() {
        CHECK.about("Terms: ROUND 0, it should as often as all that no TABLE ahead has, by how many have none yet");
        // 60 / 3 is 20: KIND 2 comes 30 times; 30 / 2 is 15: KIND 3 comes 15 times
        Run x = Run.threeTables();
        lengths(x, 0, 0, 1, 1, 1, 9, 9, 9);
        lengths(x, 0, 1, 9, 9, 9, 1, 9, 9);
        lengths(x, 0, 2, 9, 9, 9, 9, 1, 1);
        // KIND 3 comes 14 times, one less than 15: KIND 4 is TABLE 1's too
        Run y = Run.withPlaces(4, 30, 1, 14, 2, 15, 3);
        lengths(y, 0, 0, 1, 1, 1, 9, 9, 9);
        lengths(y, 0, 1, 9, 9, 9, 1, 1, 9);
        lengths(y, 0, 2, 9, 9, 9, 9, 9, 1);
    }

    private static void shareOfNothing() {
        CHECK.about("Terms: ROUND 0, a TABLE that should 1 / 2 times, cut off, gets no KINDS");
        // 60 SYMBOLS, of which KIND 2 is 58; END alone is left
        Run x = Run.alternating(0, 1, 59);
        lengths(x, 0, 0, 1, 1, 1, 9);
        lengths(x, 0, 1, 9, 9, 9, 9);
        lengths(x, 0, 2, 9, 9, 9, 1);
    }

    private static void oneTableHasAll() {
        CHECK.about("Terms: ROUND 0, one TABLE has all KINDS as its own, those that do not come too");
        lengths(Run.withSigns(5), 0, 0, 1, 1, 1);
        lengths(Run.alternating(4, 3, 18), 0, 0, 1, 1, 1, 1);
    }

    private static void bestTable() {
        CHECK.about("Terms: ROUNDS 1 to 4, each GROUP TAKES the TABLE whose LENGTHS are the least together");
        int[] dues = {0, 0, 0, 1, 1, 2};
        Run x = Run.threeTables();
        for (int round = 1; round <= 4; round++) {
            for (int group = 0; group < dues.length; group++) {
                CHECK.due("taken " + round + " " + group, x.taken(round, group), dues[group]);
            }
            lengths(x, round, 0, 4, 4, 1, 3, 3, 3);
            lengths(x, round, 1, 4, 4, 4, 1, 2, 4);
            lengths(x, round, 2, 4, 4, 3, 3, 1, 3);
        }
    }

    private static void allSymbolsOfAGroup() {
        CHECK.about("Terms: ROUNDS 1 to 4, all SYMBOLS of a GROUP count, 0s and 1s and the END too");
        // five 0s, TABLE 0's own, and five 2s, TABLE 1's: 50 in both
        CHECK.due("0s and 2s", zerosAndTwos().taken(1, 0), 0);
        // SYMBOLS 0, 0, then 2, 1, 2, 1, ..: KINDS 0 and 1 are TABLE 0's own, 2 and the END TABLE 1's
        Run x = new Run();
        for (int i = 0; i < 54; i++) {
            x.sign(i / 3 % 2);
        }
        for (int i = 2; i < 36; i++) {
            CHECK.due("symbol " + i, x.symbol(i), i % 2 == 0 ? 2 : 1);
        }
        CHECK.due("1s and 2s", x.taken(1, 1), 0);
        CHECK.due("the END alone", Run.twoTables().taken(1, 2), 1);
    }

    private static void equalTables() {
        CHECK.about("Terms: ROUNDS 1 to 4, of several TABLES the one of the lesser number");
        // five 3s and five 4s: 50 in TABLE 1 as in TABLE 2
        CHECK.due("1 and 2", Run.threeTables().taken(1, 4), 1);
        // END alone: 3 in TABLE 0 as in TABLE 1 from ROUND 2 on
        Run x = Run.twoTables();
        for (int round = 2; round <= 4; round++) {
            CHECK.due("0 and 1", x.taken(round, 2), 0);
        }
    }

    private static void weightsOfOne() {
        CHECK.about("Terms: ROUNDS 1 to 4, a KIND weighs 1 at least");
        Run x = Run.alternating(0, 1, 59);
        for (int round = 1; round <= 4; round++) {
            lengths(x, round, 1, 2, 2, 2, 2);
            lengths(x, round, 2, 2, 2, 2, 2);
        }
        codes(x, 1, 0, 1, 2, 3);
    }

    private static void equalWeights() {
        CHECK.about("Terms: ROUNDS 1 to 4, of equal weights first those of the lesser number");
        // KINDS 0 to 2 weigh 1 each: 0 and 1 become one, then 2 and that
        lengths(Run.withSigns(5), 4, 0, 2, 2, 1);
        // KINDS 0, 1, 3 weigh 1, KIND 2 weighs 3: 0 and 1, then 3 and that
        lengths(Run.alternating(10, 20, 4), 4, 0, 3, 3, 1, 2);
    }

    private static void joinedOnesComeLast() {
        CHECK.about("Terms: ROUNDS 1 to 4, what two became has the next number, from n + 2 on");
        // KINDS 1 and 3 weigh 1, together 2, as KINDS 0 and 2 do: these are joined next
        Run x = Run.withSigns(10, 20, 20, 10);
        int[] dues = {0, 2, 0, 2, 3};
        for (int i = 0; i < dues.length; i++) {
            CHECK.due("symbol " + i, x.symbol(i), dues[i]);
        }
        lengths(x, 4, 0, 2, 2, 2, 2);
        // seven KINDS of weight 1, as no GROUP took TABLE 1: 0 + 1 is 7, 2 + 3 is 8, 4 + 5 is 9,
        // 6 + 7 is 10, 8 + 9 is 11
        lengths(Run.withPlaces(5, 60, 4), 4, 1, 3, 3, 3, 3, 3, 3, 2);
    }

    private static void roundsDiffer() {
        CHECK.about("Terms: ROUNDS 1 to 4, the LENGTHS behind the ROUND before are what counts");
        Run x = Run.twoTables();
        CHECK.due("END in ROUND 1: 9 or 1", x.taken(1, 2), 1);
        CHECK.due("END in ROUND 2: 3 or 3", x.taken(2, 2), 0);
        lengths(x, 1, 0, 3, 3, 1, 3, 3);
        lengths(x, 1, 1, 3, 3, 3, 1, 3);
    }

    private static void firstCode() {
        CHECK.about("Terms: the first CODE is all 0s");
        Run x = Run.threeTables();
        CHECK.due("TABLE 0", x.code(0, 2), 0);
        CHECK.due("TABLE 1", x.code(1, 3), 0);
        CHECK.due("TABLE 2", x.code(2, 4), 0);
        CHECK.due("of equal LENGTHS", Run.withSigns(10, 20, 20, 10).code(0, 0), 0);
    }

    private static void codesByLength() {
        CHECK.about("Terms: each other CODE is that of the one ahead and 1, with 0s behind it");
        Run x = Run.threeTables();
        codes(x, 0, 14, 15, 0, 4, 5, 6);
        codes(x, 1, 12, 13, 14, 0, 2, 15);
        codes(x, 2, 14, 15, 4, 5, 0, 6);
        codes(Run.withSigns(10, 20, 20, 10), 0, 0, 1, 2, 3);
    }

    private static void lengths(Run x, int round, int table, int... dues) {
        for (int kind = 0; kind < dues.length; kind++) {
            CHECK.due("length " + round + " " + table + " " + kind, x.length(round, table, kind), dues[kind]);
        }
        CHECK.due("no more KINDS", x.length(round, table, dues.length), NONE);
    }

    private static void codes(Run x, int table, int... dues) {
        for (int kind = 0; kind < dues.length; kind++) {
            CHECK.due("code " + table + " " + kind, x.code(table, kind), dues[kind]);
        }
        CHECK.due("no more KINDS", x.code(table, dues.length), NONE);
    }
}
