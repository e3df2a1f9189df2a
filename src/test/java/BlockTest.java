import java.util.function.IntUnaryOperator;

/** Promises 1 to 8: a new object, sign, empty, told, at, map, place, symbol. */
public final class BlockTest {
    private static final int NONE = MoveFronts.NONE, OUTSIDE = MoveFronts.OUTSIDE, ROOM = MoveFronts.ROOM;
    private static final int[] FAR = {Check.LEAST, Check.LEAST + 1, -301, -2, -1, Check.MOST - 1, Check.MOST};
    private static final Check CHECK = new Check();

    public static void main(String[] args) {
        newBlock();
        newTape();
        objectsApart();
        signComes();
        signOutside();
        signRoom();
        emptied();
        emptyFull();
        emptyAgain();
        toldOutside();
        toldOfNone();
        toldOfAll();
        toldOfOneKind();
        toldAlone();
        at();
        atOfNoneAndFull();
        map();
        mapOfNoneAndFull();
        place();
        placeOfNoneAndFull();
        symbol();
        symbolOfNoneAndFull();
        CHECK.end();
    }

    private static void newBlock() {
        CHECK.about("Promise 1: a new object, THE BLOCK is empty");
        Run x = new Run();
        for (int what = 0; what <= 4; what++) {
            CHECK.due("told " + what, x.told(what), 0);
        }
        CHECK.due("at", x.at(0), NONE);
        CHECK.due("cost", x.cost(), MoveFronts.STATE);
        CHECK.due("write", x.write(), MoveFronts.STATE);
        CHECK.due("empty", x.empty(), 0);
        CHECK.due("the first SIGN", x.sign(0), 1);
    }

    private static void newTape() {
        CHECK.about("Promise 1: a new object, THE TAPE is empty");
        Run x = new Run();
        CHECK.due("told 5", x.told(5), 0);
        CHECK.due("bit", x.bit(0), NONE);
        CHECK.due("flip", x.flip(0), NONE);
        CHECK.due("cut 0", x.cut(0), 0);
        CHECK.due("cut 1", x.cut(1), OUTSIDE);
        CHECK.due("read", x.read(), -11);
        CHECK.due("the first bit", x.more(false), 1);
    }

    private static void objectsApart() {
        CHECK.about("Promise 1: a new object has nothing of those made ahead");
        Run x = Run.twoTables();
        x.write();
        Run y = new Run();
        CHECK.due("SIGNS", y.told(0), 0);
        CHECK.due("bits", y.told(5), 0);
        y.sign(9);
        y.more(true);
        CHECK.due("SIGNS of the first", x.told(0), 20);
        CHECK.due("its first SIGN", x.at(0), 1);
        CHECK.due("its bits", x.told(5), 103);
        CHECK.due("its second bit", x.bit(1), 0);
    }

    private static void signComes() {
        CHECK.about("Promise 2: a SIGN comes behind THE BLOCK: how many it has");
        Run x = new Run();
        for (int i = 0; i < 5; i++) {
            CHECK.due("sign", x.sign(250 + i), i + 1);
            CHECK.due("behind", x.at(i), 250 + i);
            CHECK.due("the first", x.at(0), 250);
            CHECK.due("SYMBOLS", x.told(2), i + 2);
            CHECK.due("cost", x.cost() > 50);
        }
    }

    private static void signOutside() {
        CHECK.about("Promise 2: OUTSIDE, a number that is no SIGN");
        Run x = Run.withSigns(0, 255);
        for (int v : new int[] {-1, 256, Check.LEAST, Check.MOST}) {
            CHECK.due("sign " + v, x.sign(v), OUTSIDE);
        }
        CHECK.due("told", x.told(0), 2);
        CHECK.due("sign 0", x.sign(0), 3);
        CHECK.due("sign 255", x.sign(255), 4);
    }

    private static void signRoom() {
        CHECK.about("Promise 2: ROOM, when THE BLOCK has 300");
        Run x = Run.falling(299);
        CHECK.due("the 300th", x.sign(0), 300);
        CHECK.due("the 301st", x.sign(0), ROOM);
        CHECK.due("the 301st, 255", x.sign(255), ROOM);
        CHECK.due("told", x.told(0), 300);
        CHECK.due("empty", x.empty(), 300);
        CHECK.due("room again", x.sign(0), 1);
    }

    private static void emptied() {
        CHECK.about("Promise 3: THE BLOCK is empty, THE TAPE is not");
        Run x = Run.withSigns(5, 5, 6);
        CHECK.due("SYMBOLS", x.told(2), 3);
        x.more(true);
        CHECK.due("empty", x.empty(), 3);
        for (int what = 0; what <= 4; what++) {
            CHECK.due("told " + what, x.told(what), 0);
        }
        CHECK.due("THE TAPE stays", x.told(5), 1);
        CHECK.due("its bit", x.bit(0), 1);
        CHECK.due("at", x.at(0), NONE);
        CHECK.due("map", x.map(0), NONE);
        CHECK.due("place", x.place(0), NONE);
        CHECK.due("symbol", x.symbol(0), NONE);
        CHECK.due("taken", x.taken(4, 0), NONE);
        CHECK.due("length", x.length(4, 0, 0), NONE);
        CHECK.due("code", x.code(0, 0), NONE);
        CHECK.due("cost", x.cost(), MoveFronts.STATE);
        CHECK.due("sign again", x.sign(9), 1);
        CHECK.due("map again", x.map(0), 9);
        CHECK.due("map has no more", x.map(1), NONE);
    }

    private static void emptyFull() {
        CHECK.about("Promise 3: how many SIGNS it had, 300 at most");
        CHECK.due("300", Run.falling(300).empty(), 300);
        CHECK.due("299", Run.falling(299).empty(), 299);
        CHECK.due("1", Run.falling(1).empty(), 1);
    }

    private static void emptyAgain() {
        CHECK.about("Promise 3: 0 when it was empty");
        Run x = new Run();
        CHECK.due("new", x.empty(), 0);
        x.sign(5);
        x.empty();
        CHECK.due("again", x.empty(), 0);
    }

    private static void toldOutside() {
        CHECK.about("Promise 4: OUTSIDE, below 0 and above 5");
        Run[] runs = {new Run(), Run.withSigns(3), Run.falling(300)};
        for (Run x : runs) {
            for (int what : new int[] {Check.LEAST, -2, -1, 6, 7, Check.MOST}) {
                CHECK.due("told " + what, x.told(what), OUTSIDE);
            }
            CHECK.due("told 0", x.told(0) >= 0);
            CHECK.due("told 5", x.told(5) >= 0);
        }
    }

    private static void told(Run x, int... dues) {
        for (int what = 0; what < dues.length; what++) {
            CHECK.due("told " + what, x.told(what), dues[what]);
        }
    }

    private static void toldOfNone() {
        CHECK.about("Promise 4: 0 TABLES, and 0 of all else, without SYMBOLS");
        told(new Run(), 0, 0, 0, 0, 0, 0);
        told(Run.withBits("101"), 0, 0, 0, 0, 0, 3);
    }

    private static void toldOfAll() {
        CHECK.about("Promise 4: SIGNS, n, SYMBOLS, GROUPS, TABLES, bits, up to their most");
        told(Run.withSigns(200), 1, 1, 2, 1, 1, 0);
        told(Run.falling(300), 300, 256, 301, 31, 3, 0);
        told(Run.withFullTape(), 175, 69, Run.inFullTape().told(2), 18, 3, 1500);
        told(Run.alternating(3, 250, 9), 9, 2, 10, 1, 1, 0);
        told(Run.alternating(3, 250, 10), 10, 2, 11, 2, 1, 0);
        told(Run.alternating(3, 250, 18), 18, 2, 19, 2, 1, 0);
        told(Run.alternating(3, 250, 19), 19, 2, 20, 2, 2, 0);
        told(Run.alternating(3, 250, 58), 58, 2, 59, 6, 2, 0);
        told(Run.alternating(3, 250, 59), 59, 2, 60, 6, 3, 0);
    }

    private static void toldOfOneKind() {
        CHECK.about("Promise 4: SYMBOLS are fewer than SIGNS where PLACES 0 are side by side");
        told(Run.repeating(4, 300), 300, 1, 9, 1, 1, 0);
        told(Run.repeating(4, 2), 2, 1, 2, 1, 1, 0);
        told(Run.repeating(4, 3), 3, 1, 3, 1, 1, 0);
    }

    private static void toldAlone() {
        CHECK.about("Promise 4: each is told at once, whatever else was asked ahead");
        int[] dues = {300, 256, 301, 31, 3, 0};
        for (int what = 0; what < dues.length; what++) {
            CHECK.due("told " + what, Run.falling(300).told(what), dues[what]);
        }
    }

    /** Such answers from 0 on, and NONE behind them and below. */
    private static void row(String name, IntUnaryOperator ask, int... dues) {
        for (int i = 0; i < dues.length; i++) {
            CHECK.due(name + " " + i, ask.applyAsInt(i), dues[i]);
        }
        CHECK.due(name + " one behind the last", ask.applyAsInt(dues.length), NONE);
        CHECK.due(name + " two behind the last", ask.applyAsInt(dues.length + 1), NONE);
        for (int i : FAR) {
            CHECK.due(name + " " + i, ask.applyAsInt(i), NONE);
        }
    }

    private static void at() {
        CHECK.about("Promise 5: SIGN i of THE BLOCK; NONE below 0 and from its end on");
        row("at", Run.withSigns(9, 0, 255)::at, 9, 0, 255);
    }

    private static void atOfNoneAndFull() {
        CHECK.about("Promise 5: NONE of an empty BLOCK; 0 to 299 of a full one");
        CHECK.due("empty", new Run().at(0), NONE);
        Run x = Run.falling(300);
        CHECK.due("at 0", x.at(0), 255);
        CHECK.due("at 299", x.at(299), 212);
        CHECK.due("at 300", x.at(300), NONE);
        x.empty();
        CHECK.due("emptied", x.at(0), NONE);
        CHECK.due("emptied, the last", x.at(299), NONE);
    }

    private static void map() {
        CHECK.about("Promise 6: the i-th SIGN of THE MAP; NONE below 0 and from n on");
        Run x = Run.withSigns(200, 0, 255, 0, 200, 200, 17);
        row("map", x::map, 0, 17, 200, 255);
        x.sign(1);
        row("map anew", x::map, 0, 1, 17, 200, 255);
    }

    private static void mapOfNoneAndFull() {
        CHECK.about("Promise 6: NONE of an empty BLOCK; 0 to 255 of all SIGNS");
        CHECK.due("empty", new Run().map(0), NONE);
        Run x = Run.falling(300);
        CHECK.due("map 0", x.map(0), 0);
        CHECK.due("map 255", x.map(255), 255);
        CHECK.due("map 256", x.map(256), NONE);
        x.empty();
        CHECK.due("emptied", x.map(0), NONE);
    }

    private static void place() {
        CHECK.about("Promise 7: the PLACE of SIGN i of THE BLOCK; NONE below 0 and from its end on");
        Run x = Run.withSigns(200, 0, 255, 0, 200, 200, 17);
        row("place", x::place, 2, 1, 3, 1, 2, 0, 3);
        x.sign(1);
        row("place anew", x::place, 3, 1, 4, 1, 2, 0, 4, 4);
    }

    private static void placeOfNoneAndFull() {
        CHECK.about("Promise 7: NONE of an empty BLOCK; 0 to 299 of a full one");
        CHECK.due("empty", new Run().place(0), NONE);
        Run x = Run.repeating(8, 300);
        CHECK.due("place 0", x.place(0), 0);
        CHECK.due("place 299", x.place(299), 0);
        CHECK.due("place 300", x.place(300), NONE);
        x.empty();
        CHECK.due("emptied", x.place(0), NONE);
    }

    private static void symbol() {
        CHECK.about("Promise 8: SYMBOL i; NONE below 0 and behind the END");
        Run x = Run.withSigns(200, 0, 255, 0, 200, 200, 17);
        row("symbol", x::symbol, 3, 2, 4, 2, 3, 0, 4, 5);
        x.sign(1);
        row("symbol anew", x::symbol, 4, 2, 5, 2, 3, 0, 5, 5, 6);
    }

    private static void symbolOfNoneAndFull() {
        CHECK.about("Promise 8: NONE of an empty BLOCK; 0 to 300 of a full one; fewer with rows of zeros");
        CHECK.due("empty", new Run().symbol(0), NONE);
        Run x = Run.falling(300);
        CHECK.due("symbol 0", x.symbol(0), 256);
        CHECK.due("symbol 299", x.symbol(299), 256);
        CHECK.due("symbol 300", x.symbol(300), 257);
        CHECK.due("symbol 301", x.symbol(301), NONE);
        x.empty();
        CHECK.due("emptied", x.symbol(0), NONE);
        Run y = Run.repeating(8, 300);
        CHECK.due("symbol 8", y.symbol(8), 2);
        CHECK.due("symbol 9", y.symbol(9), NONE);
    }
}
