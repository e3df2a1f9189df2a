/** Promises 1 to 8: a new object, sign, empty, told, at, map, place, symbol. */
public final class BlockTest {
    private static final Check CHECK = new Check();

    public static void main(String[] args) {
        newObject();
        sign();
        empty();
        told();
        mapAndPlaces();
        rowsOfZeros();
        longestSymbols();
        wrongIndexes();
        CHECK.end();
    }

    private static void newObject() {
        MoveFronts x = new MoveFronts();
        for (int what = 0; what <= 5; what++) {
            CHECK.due("new: told " + what, x.told(what), 0);
        }
        CHECK.due("new: empty", x.empty(), 0);
        CHECK.due("new: at", x.at(0), MoveFronts.NONE);
        CHECK.due("new: map", x.map(0), MoveFronts.NONE);
        CHECK.due("new: place", x.place(0), MoveFronts.NONE);
        CHECK.due("new: symbol", x.symbol(0), MoveFronts.NONE);
        CHECK.due("new: taken", x.taken(1, 0), MoveFronts.NONE);
        CHECK.due("new: length", x.length(0, 0, 0), MoveFronts.NONE);
        CHECK.due("new: code", x.code(0, 0), MoveFronts.NONE);
        CHECK.due("new: cost", x.cost(), MoveFronts.STATE);
        CHECK.due("new: bit", x.bit(0), MoveFronts.NONE);
        CHECK.due("new: fault", x.fault(), MoveFronts.NONE);
    }

    private static void sign() {
        MoveFronts x = new MoveFronts();
        CHECK.due("sign -1", x.sign(-1), MoveFronts.OUTSIDE);
        CHECK.due("sign 256", x.sign(256), MoveFronts.OUTSIDE);
        CHECK.due("sign least", x.sign(Integer.MIN_VALUE), MoveFronts.OUTSIDE);
        CHECK.due("sign most", x.sign(Integer.MAX_VALUE), MoveFronts.OUTSIDE);
        CHECK.due("nothing came", x.told(0), 0);
        for (int i = 0; i < 300; i++) {
            CHECK.due("sign " + i, x.sign(i % 256), i + 1);
        }
        CHECK.due("sign 301", x.sign(0), MoveFronts.ROOM);
        CHECK.due("OUTSIDE ahead of ROOM", x.sign(256), MoveFronts.OUTSIDE);
        CHECK.due("still 300", x.told(0), 300);
        CHECK.due("at 0", x.at(0), 0);
        CHECK.due("at 255", x.at(255), 255);
        CHECK.due("at 299", x.at(299), 43);
        CHECK.due("at 300", x.at(300), MoveFronts.NONE);
    }

    private static void empty() {
        MoveFronts x = Check.withSigns(5, 5, 6);
        x.more(true);
        CHECK.due("symbols", x.told(2), 3);
        CHECK.due("empty", x.empty(), 3);
        CHECK.due("empty again", x.empty(), 0);
        CHECK.due("no SIGNS", x.told(0), 0);
        CHECK.due("no n", x.told(1), 0);
        CHECK.due("no SYMBOLS", x.told(2), 0);
        CHECK.due("no TABLES", x.told(4), 0);
        CHECK.due("THE TAPE stays", x.told(5), 1);
        CHECK.due("at", x.at(0), MoveFronts.NONE);
        CHECK.due("no length", x.length(4, 0, 0), MoveFronts.NONE);
        CHECK.due("sign again", x.sign(9), 1);
        CHECK.due("map again", x.map(0), 9);
        CHECK.due("map had no more", x.map(1), MoveFronts.NONE);
    }

    private static void told() {
        int[][] dues = {
            // SIGNS, SYMBOLS, GROUPS, TABLES
            {1, 2, 1, 1}, {9, 10, 1, 1}, {10, 11, 2, 1}, {18, 19, 2, 1}, {19, 20, 2, 2},
            {58, 59, 6, 2}, {59, 60, 6, 3}, {60, 61, 7, 3}, {300, 301, 31, 3}};
        for (int[] due : dues) {
            MoveFronts x = Check.alternating(3, 250, due[0]);
            String of = " of " + due[0] + " SIGNS";
            CHECK.due("told 0" + of, x.told(0), due[0]);
            CHECK.due("told 1" + of, x.told(1), due[0] == 1 ? 1 : 2);
            CHECK.due("told 2" + of, x.told(2), due[1]);
            CHECK.due("told 3" + of, x.told(3), due[2]);
            CHECK.due("told 4" + of, x.told(4), due[3]);
            CHECK.due("told 5" + of, x.told(5), 0);
            CHECK.due("told -1", x.told(-1), MoveFronts.OUTSIDE);
            CHECK.due("told 6", x.told(6), MoveFronts.OUTSIDE);
            CHECK.due("told least", x.told(Integer.MIN_VALUE), MoveFronts.OUTSIDE);
        }
    }

    private static void mapAndPlaces() {
        MoveFronts x = Check.withSigns(200, 0, 255, 0, 200, 200, 17);
        row("map", new int[] {0, 17, 200, 255}, x, 0);
        row("place", new int[] {2, 1, 3, 1, 2, 0, 3}, x, 1);
        row("symbol", new int[] {3, 2, 4, 2, 3, 0, 4, 5}, x, 2);
        x.sign(1);
        row("map", new int[] {0, 1, 17, 200, 255}, x, 0);
        row("place", new int[] {3, 1, 4, 1, 2, 0, 4, 4}, x, 1);
    }

    private static void row(String name, int[] due, MoveFronts x, int which) {
        for (int i = 0; i <= due.length; i++) {
            int got = which == 0 ? x.map(i) : which == 1 ? x.place(i) : x.symbol(i);
            CHECK.due(name + " " + i, got, i < due.length ? due[i] : MoveFronts.NONE);
        }
    }

    private static void rowsOfZeros() {
        String[] dues = {"0", "1", "00", "10", "01", "11", "000", "100", "010"};
        MoveFronts x = new MoveFronts();
        for (int many = 1; many <= 300; many++) {
            x.sign(77);
            if (many <= dues.length) {
                zeros(x, dues[many - 1]);
            }
        }
        zeros(x, "10110100");
        MoveFronts y = Check.withSigns(1, 1, 1, 2, 2, 2, 2, 1, 1);
        row("two rows", new int[] {0, 0, 2, 0, 0, 2, 0, 3}, y, 2);
    }

    private static void zeros(MoveFronts x, String due) {
        String name = x.told(0) + " zeros: symbol ";
        for (int i = 0; i < due.length(); i++) {
            CHECK.due(name + i, x.symbol(i), due.charAt(i) - '0');
        }
        CHECK.due(name + "END", x.symbol(due.length()), 2);
        CHECK.due(name + "behind", x.symbol(due.length() + 1), MoveFronts.NONE);
    }

    private static void longestSymbols() {
        MoveFronts x = new MoveFronts();
        for (int i = 0; i < 300; i++) {
            x.sign(255 - i % 256);
        }
        CHECK.due("SYMBOLS", x.told(2), 301);
        CHECK.due("first PLACE", x.place(0), 255);
        CHECK.due("last PLACE", x.place(299), 255);
        CHECK.due("SYMBOL", x.symbol(299), 256);
        CHECK.due("END", x.symbol(300), 257);
        CHECK.due("map 255", x.map(255), 255);
        CHECK.due("map 256", x.map(256), MoveFronts.NONE);
    }

    private static void wrongIndexes() {
        MoveFronts x = Check.withSigns(4, 5, 4);
        for (int i : new int[] {-1, Integer.MIN_VALUE, Integer.MAX_VALUE, 5}) {
            CHECK.due("at " + i, x.at(i), MoveFronts.NONE);
            CHECK.due("map " + i, x.map(i), MoveFronts.NONE);
            CHECK.due("place " + i, x.place(i), MoveFronts.NONE);
            CHECK.due("symbol " + i, x.symbol(i), MoveFronts.NONE);
        }
    }
}
