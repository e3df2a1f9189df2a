/** Promises 13 to 17: write, more, cut, flip, bit. */
public final class TapeTest {
    private static final Check CHECK = new Check();

    public static void main(String[] args) {
        written();
        writtenFields();
        noRoom();
        moreUpToRoom();
        cut();
        flipAndBit();
        CHECK.end();
    }

    private static void written() {
        MoveFronts x = Check.twosAndThrees();
        String due = "1000000000000000 1110000000000000"
            + "10 00011"
            + "0 10 10"
            + "00011 0 0 11110 10100 0"
            + "00011 0 0 0 11110 10100"
            + "0000000000 0000000000 111";
        x.more(true);
        CHECK.due("write", x.write(), 103);
        CHECK.due("the bits", Check.bitsOf(x).equals(due.replace(" ", "")));
        CHECK.due("written again", x.write(), 103);
        CHECK.due("told", x.told(5), 103);
        CHECK.due("THE BLOCK stays", x.told(0), 20);
        x.empty();
        CHECK.due("without SIGNS", x.write(), MoveFronts.STATE);
        CHECK.due("THE TAPE stays", Check.bitsOf(x).equals(due.replace(" ", "")));
    }

    private static void writtenFields() {
        MoveFronts x = Check.withSigns(255, 16, 15);
        CHECK.due("write", x.write(), x.cost());
        String due = "1100000000000001" + "0000000000000001" + "1000000000000000"
            + "0000000000000001" + "01" + "00001" + "0";
        CHECK.due("the fields", Check.bitsOf(x).startsWith(due));
    }

    private static void noRoom() {
        MoveFronts x = Check.withSigns(9, 9);
        int bits = x.write();
        String before = Check.bitsOf(x);
        for (int i = 0; i < 298; i++) {
            x.sign(i * 7 % 256);
        }
        CHECK.due("write", x.write(), MoveFronts.ROOM);
        CHECK.due("THE TAPE stays", x.told(5), bits);
        CHECK.due("its bits too", Check.bitsOf(x).equals(before));
        CHECK.due("THE BLOCK too", x.told(0), 300);
    }

    /** SIGNS come till the last one that leaves room, or does not, is told by cost alone. */
    private static void moreUpToRoom() {
        MoveFronts x = new MoveFronts();
        int many = 0;
        while (many < 300 && (many == 0 || x.cost() <= 1480)) {
            x.sign(many * many * 5 % 199);
            many++;
        }
        int cost = x.cost();
        CHECK.due("as long as is wanted here", cost > 1480 && cost <= 1500);
        CHECK.due("write", x.write(), cost);
        for (int bits = cost + 1; bits <= 1500; bits++) {
            CHECK.due("more", x.more(bits % 2 == 0), bits);
        }
        CHECK.due("more", x.more(true), MoveFronts.ROOM);
        CHECK.due("told", x.told(5), 1500);
        CHECK.due("bit 1499", x.bit(1499), 1);
        CHECK.due("bit 1500", x.bit(1500), MoveFronts.NONE);
        CHECK.due("cut", x.cut(1499), 1);
        CHECK.due("more", x.more(false), 1500);
        CHECK.due("bit 1499", x.bit(1499), 0);
        x.cut(cost);
        CHECK.due("read", x.read(), many);
        exactRoom();
    }

    /** Blocks of just 1500 and of 1501 bits, sought among many. */
    private static void exactRoom() {
        boolean fits = false;
        boolean over = false;
        for (int seed = 1; seed < 20000 && !(fits && over); seed++) {
            MoveFronts x = new MoveFronts();
            for (int i = 0; i < 140 + seed % 60; i++) {
                x.sign((i * i * (seed % 200) + i / 3) % (100 + seed % 97));
            }
            int cost = x.cost();
            if (cost == 1500 || cost == 1501) {
                CHECK.due("write " + cost, x.write(), cost == 1500 ? 1500 : MoveFronts.ROOM);
                fits |= cost == 1500;
                over |= cost == 1501;
            }
        }
        CHECK.due("a block of 1500 bits was found", fits);
        CHECK.due("a block of 1501 bits was found", over);
    }

    private static void cut() {
        MoveFronts x = Check.withBits("1011");
        CHECK.due("cut -1", x.cut(-1), MoveFronts.OUTSIDE);
        CHECK.due("cut 5", x.cut(5), MoveFronts.OUTSIDE);
        CHECK.due("cut least", x.cut(Integer.MIN_VALUE), MoveFronts.OUTSIDE);
        CHECK.due("cut most", x.cut(Integer.MAX_VALUE), MoveFronts.OUTSIDE);
        CHECK.due("cut 4", x.cut(4), 0);
        CHECK.due("all stay", Check.bitsOf(x).equals("1011"));
        CHECK.due("cut 3", x.cut(3), 1);
        CHECK.due("cut 4 again", x.cut(4), MoveFronts.OUTSIDE);
        CHECK.due("the first stay", Check.bitsOf(x).equals("101"));
        CHECK.due("cut 0", x.cut(0), 3);
        CHECK.due("cut 0 again", x.cut(0), 0);
        CHECK.due("more", x.more(false), 1);
        CHECK.due("a new bit", x.bit(0), 0);
    }

    private static void flipAndBit() {
        MoveFronts x = Check.withBits("01");
        CHECK.due("bit 0", x.bit(0), 0);
        CHECK.due("bit 1", x.bit(1), 1);
        CHECK.due("flip 0", x.flip(0), 1);
        CHECK.due("flip 1", x.flip(1), 0);
        CHECK.due("turned", Check.bitsOf(x).equals("10"));
        CHECK.due("flip 0 again", x.flip(0), 0);
        for (int i : new int[] {-1, 2, Integer.MIN_VALUE, Integer.MAX_VALUE}) {
            CHECK.due("flip " + i, x.flip(i), MoveFronts.NONE);
            CHECK.due("bit " + i, x.bit(i), MoveFronts.NONE);
        }
        CHECK.due("as before", Check.bitsOf(x).equals("00"));
        x.cut(1);
        CHECK.due("what was cut", x.flip(1), MoveFronts.NONE);
    }
}
