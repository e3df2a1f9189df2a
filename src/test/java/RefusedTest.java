import java.util.List;
import java.util.function.Supplier;
import java.util.function.ToIntFunction;

/**
 * 'Terms': the order of OUTSIDE, STATE, ROOM, and that a refused call changes nothing. An object that
 * was refused a call is asked all there is to ask, side by side with one that was not.
 */
public final class RefusedTest {
    private static final int NONE = MoveFronts.NONE, OUTSIDE = MoveFronts.OUTSIDE;
    private static final int STATE = MoveFronts.STATE, ROOM = MoveFronts.ROOM;
    private static final Check CHECK = new Check();

    public static void main(String[] args) {
        outsideAheadOfRoom();
        outsideAheadOfNone();
        stateAheadOfRoom();
        signOutside();
        signRoom();
        toldOutside();
        takenOutside();
        lengthOutside();
        costState();
        writeState();
        writeRoom();
        moreRoom();
        cutOutside();
        flipNone();
        noneOfOthers();
        emptyOfNone();
        readFault();
        CHECK.end();
    }

    private static Run newObject() {
        return new Run();
    }

    private static Run tapeAlone() {
        return Run.withBits("1000000000000000 1010");
    }

    /** SIGNS, a TAPE that is not theirs, and a FAULT that was met. */
    private static Run some() {
        Run x = Run.twoTables();
        x.addBits("1000000000000000 0000000000000000 0110");
        x.read();
        return x;
    }

    /** A full BLOCK that can't be WRITTEN, and a few bits. */
    private static Run fullBlock() {
        Run x = Run.farBeyondFullTape();
        x.addBits("10110");
        return x;
    }

    private static Run fullTape() {
        Run x = Run.withFullTape();
        x.flip(1499);
        x.read();
        x.sign(9);
        return x;
    }

    /** Calls that change things: they go on as if the refused call had not been. */
    private static List<Question> changes() {
        return List.of(new Question("sign", r -> r.sign(77)), new Question("more", r -> r.more(true)),
            new Question("flip", r -> r.flip(1)), new Question("read", Run::read),
            new Question("cut", r -> r.cut(3)), new Question("told 5", r -> r.told(5)),
            new Question("write", Run::write), new Question("told 5", r -> r.told(5)),
            new Question("read", Run::read), new Question("told 0", r -> r.told(0)),
            new Question("cost", Run::cost), new Question("empty", Run::empty),
            new Question("sign", r -> r.sign(255)), new Question("write", Run::write));
    }

    private static void unchanged(String name, Supplier<Run> maker, int due, ToIntFunction<Run> call) {
        compare(name, maker, due, call, Question.all(maker.get(), true));
        compare(name, maker, due, call, changes());
    }

    private static void compare(String name, Supplier<Run> maker, int due, ToIntFunction<Run> call,
            List<Question> questions) {
        int next = 0;
        // What follows from THE BLOCK may be known ahead of the call, or not.
        for (int turn = 0; next < questions.size(); turn++) {
            Run plain = maker.get();
            Run refused = maker.get();
            if (turn % 2 == 0) {
                plain.cost();
                refused.cost();
            }
            CHECK.due(name, call.applyAsInt(refused), due);
            while (next < questions.size() && refused.callsLeft() > 0) {
                Question question = questions.get(next);
                CHECK.due(question.name() + " behind " + name,
                    question.ask().applyAsInt(refused), question.ask().applyAsInt(plain));
                next++;
            }
        }
    }

    private static List<Supplier<Run>> states() {
        return List.of(RefusedTest::newObject, RefusedTest::tapeAlone, RefusedTest::some,
            RefusedTest::fullBlock, RefusedTest::fullTape);
    }

    private static void outsideAheadOfRoom() {
        CHECK.about("Terms: OUTSIDE is answered ahead of ROOM");
        Run x = fullBlock();
        CHECK.due("sign 256", x.sign(256), OUTSIDE);
        CHECK.due("sign -1", x.sign(-1), OUTSIDE);
        CHECK.due("sign 255", x.sign(255), ROOM);
        CHECK.due("sign 0", x.sign(0), ROOM);
        CHECK.due("cut of a full TAPE", fullTape().cut(1501), OUTSIDE);
    }

    private static void outsideAheadOfNone() {
        CHECK.about("Terms: OUTSIDE is answered, whether THE BLOCK has SIGNS or not");
        for (Supplier<Run> maker : states()) {
            Run x = maker.get();
            CHECK.due("taken", x.taken(0, 0), OUTSIDE);
            CHECK.due("taken of no GROUP", x.taken(5, -1), OUTSIDE);
            CHECK.due("length", x.length(-1, 0, 0), OUTSIDE);
            CHECK.due("length of no TABLE", x.length(5, -1, -1), OUTSIDE);
            CHECK.due("told", x.told(6), OUTSIDE);
            CHECK.due("sign", x.sign(256), OUTSIDE);
            CHECK.due("cut", x.cut(-1), OUTSIDE);
        }
    }

    private static void stateAheadOfRoom() {
        CHECK.about("Terms: STATE is answered without SIGNS, be THE TAPE full or not");
        Run x = fullTape();
        x.empty();
        CHECK.due("write", x.write(), STATE);
        CHECK.due("cost", x.cost(), STATE);
        CHECK.due("more", x.more(true), ROOM);
        x.sign(0);
        CHECK.due("write", x.write(), 53);
    }

    private static void signOutside() {
        CHECK.about("Promise 2: sign, OUTSIDE, and nothing changes");
        for (Supplier<Run> maker : states()) {
            unchanged("sign -1", maker, OUTSIDE, x -> x.sign(-1));
            unchanged("sign 256", maker, OUTSIDE, x -> x.sign(256));
        }
    }

    private static void signRoom() {
        CHECK.about("Promise 2: sign, ROOM, and nothing changes");
        unchanged("sign 0", RefusedTest::fullBlock, ROOM, x -> x.sign(0));
        unchanged("sign 255", RefusedTest::fullBlock, ROOM, x -> x.sign(255));
    }

    private static void toldOutside() {
        CHECK.about("Promise 4: told, OUTSIDE, and nothing changes");
        unchanged("told -1", RefusedTest::some, OUTSIDE, x -> x.told(-1));
        unchanged("told 6", RefusedTest::some, OUTSIDE, x -> x.told(6));
    }

    private static void takenOutside() {
        CHECK.about("Promise 9: taken, OUTSIDE, and nothing changes");
        for (Supplier<Run> maker : states()) {
            unchanged("taken 0", maker, OUTSIDE, x -> x.taken(0, 0));
            unchanged("taken 5", maker, OUTSIDE, x -> x.taken(5, 0));
        }
    }

    private static void lengthOutside() {
        CHECK.about("Promise 10: length, OUTSIDE, and nothing changes");
        for (Supplier<Run> maker : states()) {
            unchanged("length -1", maker, OUTSIDE, x -> x.length(-1, 0, 0));
            unchanged("length 5", maker, OUTSIDE, x -> x.length(5, 0, 0));
        }
    }

    private static void costState() {
        CHECK.about("Promise 12: cost, STATE, and nothing changes");
        unchanged("cost", RefusedTest::newObject, STATE, Run::cost);
        unchanged("cost", RefusedTest::tapeAlone, STATE, Run::cost);
    }

    private static void writeState() {
        CHECK.about("Promise 13: write, STATE, and nothing changes");
        unchanged("write", RefusedTest::newObject, STATE, Run::write);
        unchanged("write", RefusedTest::tapeAlone, STATE, Run::write);
    }

    private static void writeRoom() {
        CHECK.about("Promise 13: write, ROOM, and nothing changes");
        unchanged("write", RefusedTest::fullBlock, ROOM, Run::write);
        unchanged("write", () -> {
            Run x = Run.beyondFullTape();
            x.addBits("0110");
            return x;
        }, ROOM, Run::write);
    }

    private static void moreRoom() {
        CHECK.about("Promise 14: more, ROOM, and nothing changes");
        unchanged("more 1", RefusedTest::fullTape, ROOM, x -> x.more(true));
        unchanged("more 0", RefusedTest::fullTape, ROOM, x -> x.more(false));
    }

    private static void cutOutside() {
        CHECK.about("Promise 15: cut, OUTSIDE, and nothing changes");
        for (Supplier<Run> maker : states()) {
            int bits = maker.get().told(5);
            unchanged("cut -1", maker, OUTSIDE, x -> x.cut(-1));
            unchanged("cut " + (bits + 1), maker, OUTSIDE, x -> x.cut(bits + 1));
        }
    }

    private static void flipNone() {
        CHECK.about("Promise 16: flip, NONE, and nothing changes");
        for (Supplier<Run> maker : states()) {
            int bits = maker.get().told(5);
            unchanged("flip -1", maker, NONE, x -> x.flip(-1));
            unchanged("flip " + bits, maker, NONE, x -> x.flip(bits));
        }
    }

    private static void noneOfOthers() {
        CHECK.about("Promises 5 to 11, 17: NONE, and nothing changes");
        for (Supplier<Run> maker : List.<Supplier<Run>>of(RefusedTest::newObject, RefusedTest::some)) {
            unchanged("at", maker, NONE, x -> x.at(20));
            unchanged("map", maker, NONE, x -> x.map(3));
            unchanged("place", maker, NONE, x -> x.place(20));
            unchanged("symbol", maker, NONE, x -> x.symbol(21));
            unchanged("taken", maker, NONE, x -> x.taken(4, 3));
            unchanged("length", maker, NONE, x -> x.length(0, 2, 0));
            unchanged("code", maker, NONE, x -> x.code(0, 5));
            unchanged("bit", maker, NONE, x -> x.bit(36));
        }
    }

    private static void emptyOfNone() {
        CHECK.about("Promise 3: empty of an empty BLOCK, and nothing changes");
        unchanged("empty", RefusedTest::newObject, 0, Run::empty);
        unchanged("empty", RefusedTest::tapeAlone, 0, Run::empty);
    }

    private static void readFault() {
        CHECK.about("Promise 18: read with a FAULT, and nothing changes but fault()");
        int[] dues = {-11, -11, -12, -11, -11};
        List<Supplier<Run>> makers = states();
        for (int k = 0; k < dues.length; k++) {
            compare("read", makers.get(k), dues[k], Run::read, Question.all(makers.get(k).get(), false));
            compare("read", makers.get(k), dues[k], Run::read, changes());
        }
        Supplier<Run> left = () -> {
            Run x = Run.threeTables();
            x.write();
            x.more(true);
            x.empty();
            x.sign(4);
            return x;
        };
        compare("read with a bit too many", left, -20, Run::read, Question.all(left.get(), false));
    }
}
