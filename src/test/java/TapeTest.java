/** Promises 13 to 17: write, more, cut, flip, bit. */
public final class TapeTest {
    private static final int NONE = MoveFronts.NONE, OUTSIDE = MoveFronts.OUTSIDE, ROOM = MoveFronts.ROOM;
    private static final int[] FAR = {Check.LEAST, -1500, -2, -1, 1501, 65536, Check.MOST};
    private static final Check CHECK = new Check();

    public static void main(String[] args) {
        written();
        writtenOverLonger();
        writeOfNone();
        writeUpToRoom();
        writeBeyondRoom();
        more();
        moreUpToRoom();
        cut();
        cutOutside();
        cutOfNoneAndFull();
        cutBitsAreGone();
        flip();
        flipNone();
        flipOfNoneAndFull();
        bit();
        bitNone();
        bitOfNoneAndFull();
        CHECK.end();
    }

    private static void written() {
        CHECK.about("Promise 13: THE TAPE is THE BLOCK, WRITTEN: how many bits");
        Run x = Run.twoTables();
        CHECK.due("write", x.write(), 103);
        CHECK.due("told", x.told(5), 103);
        CHECK.due("THE BLOCK stays", x.told(0), 20);
        CHECK.due("written again", x.write(), 103);
        CHECK.due("as many as before", x.told(5), 103);
        CHECK.due("read", x.read(), 20);
    }

    private static void writtenOverLonger() {
        CHECK.about("Promise 13: nothing of the old TAPE is left, be it shorter or longer");
        Run x = Run.withFullTape();
        x.empty();
        x.sign(255);
        CHECK.due("write", x.write(), 53);
        CHECK.due("told", x.told(5), 53);
        CHECK.due("bit 53", x.bit(53), NONE);
        CHECK.due("the bits", x.bits(), "0000000000000001 0000000000000001 01 00001 0 00010 0 0 110 10 0");
        Run y = Run.withSigns(255);
        y.more(true);
        CHECK.due("write", y.write(), 53);
        CHECK.due("the first bit", y.bit(0), 0);
    }

    private static void writeOfNone() {
        CHECK.about("Promise 13: STATE, THE BLOCK has no SIGNS; THE TAPE stays");
        Run x = Run.withBits("1101");
        CHECK.due("write", x.write(), MoveFronts.STATE);
        CHECK.due("the bits", x.bits(), "1101");
        x.sign(4);
        CHECK.due("one SIGN", x.write(), 53);
        x.empty();
        CHECK.due("emptied", x.write(), MoveFronts.STATE);
        CHECK.due("told", x.told(5), 53);
        // a full TAPE is no matter: STATE comes ahead of ROOM
        Run full = Run.withFullTape();
        full.empty();
        CHECK.due("with a full TAPE", full.write(), MoveFronts.STATE);
        CHECK.due("told", full.told(5), 1500);
    }

    private static void writeUpToRoom() {
        CHECK.about("Promise 13: 1500 bits are not more than 1500");
        Run x = Run.inFullTape();
        CHECK.due("write", x.write(), 1500);
        CHECK.due("told", x.told(5), 1500);
        CHECK.due("over a full TAPE", x.write(), 1500);
        CHECK.due("read", x.read(), 175);
    }

    private static void writeBeyondRoom() {
        CHECK.about("Promise 13: ROOM, there would be more than 1500; THE TAPE stays");
        Run x = Run.beyondFullTape();
        x.addBits("1011");
        CHECK.due("1501", x.write(), ROOM);
        CHECK.due("the bits", x.bits(), "1011");
        CHECK.due("THE BLOCK", x.told(0), 175);
        // what was WRITTEN last stays, too
        Run y = Run.withSigns(255);
        y.write();
        for (int i = 0; i < 299; i++) {
            y.sign(i * i % 241);
        }
        CHECK.due("grown", y.write(), ROOM);
        CHECK.due("bits", y.bits(), "0000000000000001 0000000000000001 01 00001 0 00010 0 0 110 10 0");
        Run most = Run.farBeyondFullTape();
        most.addBits("1011");
        CHECK.due("far more", most.write(), ROOM);
        CHECK.due("its bits", most.bits(), "1011");
    }

    private static void more() {
        CHECK.about("Promise 14: a bit comes behind THE TAPE: how many there are");
        Run x = new Run();
        for (int i = 0; i < 20; i++) {
            CHECK.due("more", x.more(i % 3 == 0), i + 1);
            CHECK.due("the bit", x.bit(i), i % 3 == 0 ? 1 : 0);
        }
        CHECK.due("THE BLOCK", x.told(0), 0);
        Run y = Run.withSigns(255);
        y.write();
        CHECK.due("behind what was WRITTEN", y.more(true), 54);
        CHECK.due("the last", y.bit(53), 1);
    }

    private static void moreUpToRoom() {
        CHECK.about("Promise 14: ROOM, when THE TAPE has 1500");
        Run x = Run.withFullTape();
        CHECK.due("a 1", x.more(true), ROOM);
        CHECK.due("a 0", x.more(false), ROOM);
        CHECK.due("told", x.told(5), 1500);
        for (int turn = 0; turn < 2; turn++) {
            CHECK.due("cut", x.cut(1499), 1);
            CHECK.due("more", x.more(turn == 1), 1500);
            CHECK.due("bit 1499", x.bit(1499), turn);
            CHECK.due("one more", x.more(turn == 0), ROOM);
            CHECK.due("bit 1499 still", x.bit(1499), turn);
        }
    }

    private static void cut() {
        CHECK.about("Promise 15: just the first n bits stay: how many went");
        Run x = Run.withBits("10110");
        CHECK.due("cut 5", x.cut(5), 0);
        CHECK.due("all stay", x.bits(), "10110");
        CHECK.due("cut 4", x.cut(4), 1);
        CHECK.due("four stay", x.bits(), "1011");
        CHECK.due("cut 1", x.cut(1), 3);
        CHECK.due("one stays", x.bits(), "1");
        CHECK.due("cut 0", x.cut(0), 1);
        CHECK.due("none stays", x.told(5), 0);
        CHECK.due("cut 0 again", x.cut(0), 0);
    }

    private static void cutOutside() {
        CHECK.about("Promise 15: OUTSIDE, below 0 and above how many bits there are");
        Run x = Run.withBits("1011");
        for (int n : new int[] {-1, 5, 6, 1500, 1501, -4, Check.LEAST, Check.MOST}) {
            CHECK.due("cut " + n, x.cut(n), OUTSIDE);
        }
        CHECK.due("all stay", x.bits(), "1011");
        x.cut(3);
        CHECK.due("what went does not count", x.cut(4), OUTSIDE);
        CHECK.due("three stay", x.bits(), "101");
    }

    private static void cutOfNoneAndFull() {
        CHECK.about("Promise 15: 0 of an empty TAPE; 0 to 1500 of a full one");
        Run none = new Run();
        CHECK.due("cut 0", none.cut(0), 0);
        CHECK.due("cut 1", none.cut(1), OUTSIDE);
        CHECK.due("cut -1", none.cut(-1), OUTSIDE);
        Run x = Run.withFullTape();
        CHECK.due("cut 1501", x.cut(1501), OUTSIDE);
        CHECK.due("cut 1500", x.cut(1500), 0);
        CHECK.due("cut 1499", x.cut(1499), 1);
        CHECK.due("cut 1500 then", x.cut(1500), OUTSIDE);
        CHECK.due("cut 0", x.cut(0), 1499);
        CHECK.due("told", x.told(5), 0);
    }

    private static void cutBitsAreGone() {
        CHECK.about("Promise 15: bits that went do not come back");
        Run x = Run.withBits("111");
        x.cut(1);
        CHECK.due("bit 1", x.bit(1), NONE);
        CHECK.due("more", x.more(false), 2);
        CHECK.due("the bits", x.bits(), "10");
        CHECK.due("bit 2", x.bit(2), NONE);
    }

    private static void flip() {
        CHECK.about("Promise 16: bit i is turned: what it is then");
        Run x = Run.withBits("011");
        CHECK.due("flip 0", x.flip(0), 1);
        CHECK.due("alone", x.bits(), "111");
        CHECK.due("flip 2", x.flip(2), 0);
        CHECK.due("alone", x.bits(), "110");
        CHECK.due("flip 0 again", x.flip(0), 0);
        CHECK.due("flip 2 again", x.flip(2), 1);
        CHECK.due("as before", x.bits(), "011");
    }

    private static void flipNone() {
        CHECK.about("Promise 16: NONE, there is none such");
        Run x = Run.withBits("011");
        CHECK.due("flip 3", x.flip(3), NONE);
        for (int i : FAR) {
            CHECK.due("flip " + i, x.flip(i), NONE);
        }
        CHECK.due("as before", x.bits(), "011");
        x.cut(2);
        CHECK.due("what was cut", x.flip(2), NONE);
        CHECK.due("the last", x.flip(1), 0);
    }

    private static void flipOfNoneAndFull() {
        CHECK.about("Promise 16: NONE of an empty TAPE; 0 to 1499 of a full one");
        CHECK.due("empty", new Run().flip(0), NONE);
        Run x = Run.withFullTape();
        int last = x.bit(1499);
        CHECK.due("flip 1499", x.flip(1499), 1 - last);
        CHECK.due("bit 1499", x.bit(1499), 1 - last);
        CHECK.due("flip 1500", x.flip(1500), NONE);
        CHECK.due("flip 0", x.flip(0), 0);
        CHECK.due("told", x.told(5), 1500);
    }

    private static void bit() {
        CHECK.about("Promise 17: bit i of THE TAPE (0, 1)");
        Run x = Run.withBits("0110");
        int[] dues = {0, 1, 1, 0, NONE};
        for (int i = 0; i < dues.length; i++) {
            CHECK.due("bit " + i, x.bit(i), dues[i]);
        }
        CHECK.due("asked again", x.bit(1), 1);
    }

    private static void bitNone() {
        CHECK.about("Promise 17: NONE, there is none such");
        Run x = Run.withBits("0110");
        for (int i : FAR) {
            CHECK.due("bit " + i, x.bit(i), NONE);
        }
        CHECK.due("bit 4", x.bit(4), NONE);
        x.cut(3);
        CHECK.due("what was cut", x.bit(3), NONE);
    }

    private static void bitOfNoneAndFull() {
        CHECK.about("Promise 17: NONE of an empty TAPE; 0 to 1499 of a full one");
        CHECK.due("empty", new Run().bit(0), NONE);
        Run x = Run.withFullTape();
        CHECK.due("bit 0", x.bit(0), 1);
        CHECK.due("bit 1499", x.bit(1499) >= 0);
        CHECK.due("bit 1500", x.bit(1500), NONE);
        x.cut(0);
        CHECK.due("cut", x.bit(0), NONE);
    }
}
