import java.util.List;
import java.util.function.Consumer;
import java.util.function.Supplier;

/**
 * Promises 2, 3 and 18: what follows from THE BLOCK follows from it as it is now. An object that knew
 * all about another BLOCK is asked all there is to ask, side by side with one that never had another.
 */
public final class ChangedTest {
    private static final Check CHECK = new Check();

    public static void main(String[] args) {
        bySign();
        byEmpty();
        byRead();
        askedFirst();
        CHECK.end();
    }

    private static Run knowing(Run x) {
        x.cost();
        x.told(2);
        return x;
    }

    private static void same(String name, Supplier<Run> plain, Supplier<Run> changed) {
        List<Question> questions = Question.all(plain.get(), false);
        int next = 0;
        while (next < questions.size()) {
            Run one = plain.get();
            Run other = changed.get();
            while (next < questions.size() && one.callsLeft() > 0 && other.callsLeft() > 0) {
                Question question = questions.get(next);
                CHECK.due(question.name() + " behind " + name,
                    question.ask().applyAsInt(other), question.ask().applyAsInt(one));
                next++;
            }
        }
    }

    private static void bySign() {
        CHECK.about("Promise 2: behind sign all is that of the longer BLOCK");
        same("a SIGN that was there", Run::twoTables, () -> with(knowing(Run.withPlaces(3, 10, 1, 9, 2)), x -> x.sign(2)));
        same("a new SIGN", () -> Run.withSigns(9, 8, 7), () -> with(knowing(Run.withSigns(9, 8)), x -> x.sign(7)));
        same("a first SIGN", () -> Run.withSigns(9), () -> with(new Run(), x -> {
            x.cost();
            x.told(1);
            x.sign(9);
        }));
        same("the last SIGN", () -> Run.falling(300), () -> with(knowing(Run.falling(299)), x -> x.sign(212)));
    }

    private static void byEmpty() {
        CHECK.about("Promise 3: behind empty all is that of an empty BLOCK, or of a new one");
        same("empty", Run::new, () -> with(knowing(Run.threeTables()), Run::empty));
        same("empty and SIGNS", () -> Run.withSigns(3, 3), () -> with(knowing(Run.threeTables()), x -> {
            x.empty();
            x.sign(3);
            x.sign(3);
        }));
    }

    private static void byRead() {
        CHECK.about("Promise 18: behind read all is that of the BLOCK that was read");
        Supplier<Run> plain = () -> with(Run.threeTables(), Run::write);
        same("read", plain, () -> with(Run.threeTables(), x -> {
            x.write();
            x.empty();
            x.sign(255);
            knowing(x);
            x.read();
        }));
        same("read of a longer one", plain, () -> with(Run.threeTables(), x -> {
            x.write();
            for (int i = 0; i < 60; i++) {
                x.sign(i * 4);
            }
            knowing(x);
            x.read();
        }));
    }

    private static void askedFirst() {
        CHECK.about("Promises 4 to 12: each answer is the same, whatever was asked ahead of it");
        Run known = knowing(Run.twoTables());
        for (Question question : Question.all(Run.twoTables(), true)) {
            CHECK.due(question.name() + " first", question.ask().applyAsInt(Run.twoTables()),
                question.ask().applyAsInt(known));
        }
    }

    private static Run with(Run x, Consumer<Run> change) {
        change.accept(x);
        return x;
    }
}
