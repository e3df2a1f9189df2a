/** Compares answers with those that are due, and ends a test with exit code 1 if one was wrong. */
final class Check {
    private int checks = 0;
    private int wrong = 0;

    void due(String what, long got, long want) {
        checks++;
        if (got != want) {
            wrong++;
            if (wrong <= 20) {
                System.out.println(what + " answered " + got + ", due is " + want);
            }
        }
    }

    void due(String what, boolean holds) {
        due(what, holds ? 1 : 0, 1);
    }

    boolean isClean() {
        return wrong == 0;
    }

    void end() {
        System.out.println(checks + " checks, " + wrong + " wrong");
        if (wrong != 0 || checks == 0) {
            System.exit(1);
        }
    }

    /** A new object whose BLOCK has these SIGNS. */
    static MoveFronts withSigns(int... signs) {
        MoveFronts x = new MoveFronts();
        for (int v : signs) {
            x.sign(v);
        }
        return x;
    }

    /** A new object whose BLOCK is a, b, a, b, and so on. */
    static MoveFronts alternating(int a, int b, int many) {
        MoveFronts x = new MoveFronts();
        for (int i = 0; i < many; i++) {
            x.sign(i % 2 == 0 ? a : b);
        }
        return x;
    }

    /** A new object whose BLOCK has ten PLACES 1, then ten PLACES 2. */
    static MoveFronts twosAndThrees() {
        return withSigns(1, 0, 1, 0, 1, 0, 1, 0, 1, 0, 2, 1, 0, 2, 1, 0, 2, 1, 0, 2);
    }

    /** A new object whose TAPE has these bits; what is no 0 or 1 is passed over. */
    static MoveFronts withBits(String bits) {
        MoveFronts x = new MoveFronts();
        addBits(x, bits);
        return x;
    }

    static void addBits(MoveFronts x, String bits) {
        for (char c : bits.toCharArray()) {
            if (c == '0' || c == '1') {
                x.more(c == '1');
            }
        }
    }

    static String bitsOf(MoveFronts x) {
        StringBuilder text = new StringBuilder();
        int many = x.told(5);
        for (int i = 0; i < many; i++) {
            text.append(x.bit(i));
        }
        return text.toString();
    }

    static int countBits(String bits) {
        int count = 0;
        for (char c : bits.toCharArray()) {
            count += c == '0' || c == '1' ? 1 : 0;
        }
        return count;
    }
}
