import java.util.ArrayList;
import java.util.List;

/** An object with its calls counted: the document promises nothing behind the 512th. */
final class Run {
    static final int MOST_CALLS = 512;

    private final MoveFronts object = new MoveFronts();
    private int calls = 0;

    private MoveFronts next() {
        calls++;
        if (calls > MOST_CALLS) {
            throw new IllegalStateException("a test goes beyond " + MOST_CALLS + " calls");
        }
        return object;
    }

    int callsLeft() {
        return MOST_CALLS - calls;
    }

    int sign(int v) {
        return next().sign(v);
    }

    int empty() {
        return next().empty();
    }

    int told(int what) {
        return next().told(what);
    }

    int at(int i) {
        return next().at(i);
    }

    int map(int i) {
        return next().map(i);
    }

    int place(int i) {
        return next().place(i);
    }

    int symbol(int i) {
        return next().symbol(i);
    }

    int taken(int round, int group) {
        return next().taken(round, group);
    }

    int length(int round, int table, int kind) {
        return next().length(round, table, kind);
    }

    int code(int table, int kind) {
        return next().code(table, kind);
    }

    int cost() {
        return next().cost();
    }

    int write() {
        return next().write();
    }

    int more(boolean bit) {
        return next().more(bit);
    }

    int cut(int n) {
        return next().cut(n);
    }

    int flip(int i) {
        return next().flip(i);
    }

    int bit(int i) {
        return next().bit(i);
    }

    int read() {
        return next().read();
    }

    int fault() {
        return next().fault();
    }

    /** THE BLOCK has these SIGNS. */
    static Run withSigns(int... signs) {
        Run x = new Run();
        for (int v : signs) {
            x.sign(v);
        }
        return x;
    }

    /** THE BLOCK is a, b, a, b, and so on: with a below b, one SYMBOL 0, then SYMBOLS 2, then END. */
    static Run alternating(int a, int b, int many) {
        Run x = new Run();
        for (int i = 0; i < many; i++) {
            x.sign(i % 2 == 0 ? a : b);
        }
        return x;
    }

    /** THE BLOCK is one SIGN, again and again. */
    static Run repeating(int v, int many) {
        return alternating(v, v, many);
    }

    /** THE BLOCK is 255, 254, and so on down to 0, and again from 255 on: no PLACE is 0. */
    static Run falling(int many) {
        Run x = new Run();
        for (int i = 0; i < many; i++) {
            x.sign(255 - i % 256);
        }
        return x;
    }

    /** THE BLOCK is 0, c, 4 c, 9 c, and so on, all modulo m. */
    static Run squares(int c, int m, int many) {
        Run x = new Run();
        for (int i = 0; i < many; i++) {
            x.sign(i * i * c % m);
        }
        return x;
    }

    /** THE BLOCK is WRITTEN in just as many bits as THE TAPE takes. */
    static Run inFullTape() {
        return squares(1, 137, 175);
    }

    /** THE BLOCK would be WRITTEN in one bit more than THE TAPE takes. */
    static Run beyondFullTape() {
        return squares(9, 137, 175);
    }

    /** THE BLOCK is full, and would be WRITTEN in far more bits than THE TAPE takes. */
    static Run farBeyondFullTape() {
        return squares(1, 241, 300);
    }

    /** THE TAPE is full. */
    static Run withFullTape() {
        Run x = inFullTape();
        x.write();
        return x;
    }

    /** THE BLOCK of SIGNS 0 to n - 1 that has so many PLACES each: many, place, many, place, .. */
    static Run withPlaces(int n, int... manyAndPlace) {
        List<Integer> list = new ArrayList<>();
        for (int v = 0; v < n; v++) {
            list.add(v);
        }
        Run x = new Run();
        for (int k = 0; k + 1 < manyAndPlace.length; k += 2) {
            for (int i = 0; i < manyAndPlace[k]; i++) {
                Integer v = list.remove(manyAndPlace[k + 1]);
                list.add(0, v);
                x.sign(v);
            }
        }
        if (x.told(1) != n) {
            throw new IllegalStateException("these PLACES do not bring all " + n + " SIGNS");
        }
        return x;
    }

    /** SYMBOLS: ten 2s, ten 3s, END 4. */
    static Run twoTables() {
        return withPlaces(3, 10, 1, 10, 2);
    }

    /** SYMBOLS: thirty 2s, fifteen 3s, fourteen 4s, END 5. */
    static Run threeTables() {
        return withPlaces(4, 30, 1, 15, 2, 14, 3);
    }

    /** THE TAPE has these bits; what is no 0 or 1 is passed over. */
    static Run withBits(String bits) {
        Run x = new Run();
        x.addBits(bits);
        return x;
    }

    void addBits(String bits) {
        for (char c : bits.toCharArray()) {
            if (c == '0' || c == '1') {
                more(c == '1');
            }
        }
    }

    String bits() {
        StringBuilder text = new StringBuilder();
        int many = told(5);
        for (int i = 0; i < many; i++) {
            text.append(bit(i));
        }
        return text.toString();
    }

    static int countBits(String bits) {
        return bits.replaceAll("[^01]", "").length();
    }
}
