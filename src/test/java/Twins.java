import java.util.ArrayList;
import java.util.List;
import java.util.function.Consumer;
import java.util.function.ToIntFunction;

/**
 * Tells one story to a bench, and another one to a second bench, and asks both for all that they
 * show: so a call that is refused can be seen to have changed nothing.
 */
final class Twins {
    // An object is good for 512 calls; a story takes up to 250 of them.
    private static final int MOST_QUESTIONS = 250;

    private record Question(String call, ToIntFunction<ValueBench> ask) {
    }

    private final List<List<Question>> rows = new ArrayList<>();

    private Twins() {
    }

    /** All that later calls show must be alike behind both stories. */
    static void alike(Due due, String title, Consumer<ValueBench> one,
            Consumer<ValueBench> other) {
        Twins twins = new Twins();
        twins.askWhatRan();
        twins.askProgram();
        twins.askValues(told(one));
        twins.askReads();
        for (int form = 0; form <= 2; form++) {
            twins.askRun(form);
        }
        twins.askForMore();
        twins.askForBlocks();
        for (List<Question> row : twins.rows) {
            ValueBench x = told(one);
            ValueBench y = told(other);
            for (Question q : row) {
                due.is(title + ", then " + q.call, q.ask.applyAsInt(y), q.ask.applyAsInt(x));
            }
        }
    }

    private static ValueBench told(Consumer<ValueBench> story) {
        ValueBench x = new ValueBench();
        story.accept(x);
        return x;
    }

    private void begin() {
        rows.add(new ArrayList<>());
    }

    private void ask(String call, ToIntFunction<ValueBench> ask) {
        if (rows.get(rows.size() - 1).size() == MOST_QUESTIONS) {
            begin();
        }
        rows.get(rows.size() - 1).add(new Question(call, ask));
    }

    private void askLatest() {
        for (int n = -1; n <= 4; n++) {
            int what = n;
            ask("ran " + what, x -> x.ran(what));
        }
        for (int n = -1; n <= 61; n++) {
            int i = n;
            ask("emitted " + i, x -> x.emitted(i));
        }
    }

    private void askWhatRan() {
        begin();
        askLatest();
        ask("fuel", x -> x.fuel(1));
    }

    private void askProgram() {
        begin();
        for (int n = -1; n <= 7; n++) {
            int what = n;
            ask("count " + what, x -> x.count(what));
            for (int m = -1; m <= 16; m++) {
                int b = m;
                ask("about " + b + " " + what, x -> x.about(b, what));
            }
        }
        for (int n = -1; n <= 16; n++) {
            int a = n;
            for (int m = -1; m <= 16; m++) {
                int b = m;
                ask("predecessor " + a + " " + b, x -> x.predecessor(a, b));
                ask("dominates " + a + " " + b, x -> x.dominates(a, b));
                ask("meets " + a + " " + b, x -> x.meets(a, b));
            }
        }
    }

    private void askValues(ValueBench sized) {
        begin();
        int values = sized.count(3);
        for (int n = -1; n <= values; n++) {
            int v = n;
            ask("classOf " + v, x -> x.classOf(v));
            for (int m = 0; m <= 6; m++) {
                int what = m;
                ask("value " + v + " " + what, x -> x.value(v, what));
            }
            for (int m = -1; m <= 3; m++) {
                int i = m;
                ask("operand " + v + " " + i, x -> x.operand(v, i));
                ask("led " + v + " " + i, x -> x.led(v, i));
            }
        }
    }

    private void askReads() {
        begin();
        for (int n = -1; n <= 16; n++) {
            int b = n;
            ask("read " + b, x -> x.read(b, false));
            ask("read in LED " + b, x -> x.read(b, true));
            for (int m = -1; m <= 4; m++) {
                int i = m;
                ask("emits " + b + " " + i, x -> x.emits(b, i, false));
                ask("emits in LED " + b + " " + i, x -> x.emits(b, i, true));
            }
        }
    }

    private void askRun(int form) {
        begin();
        ask("run " + form, x -> x.run(form, 4, -1, 2, 7));
        askLatest();
        ask("fuel 5000", x -> x.fuel(5000));
        ask("run " + form + " again", x -> x.run(form, -1, 0, 0, 0));
        askLatest();
    }

    /** What is told later comes to the same place on both sides. */
    private void askForMore() {
        begin();
        for (int n = 0; n <= 15; n++) {
            int b = n;
            ask("put at " + b, x -> x.put(b, 14, 0, 0, 0));
            ask("emits at " + b, x -> x.emits(b, 0, false));
            ask("ends at " + b, x -> x.ends(b, 1, 0, 15 - b, 0) ? 1 : 0);
            ask("how ends " + b, x -> x.about(b, 6));
        }
        ask("count 3", x -> x.count(3));
        ask("run", x -> x.run(0, 1, 1, 1, 1));
        ask("ran 1", x -> x.ran(1));
    }

    private void askForBlocks() {
        begin();
        for (int n = 0; n <= 16; n++) {
            ask("block", ValueBench::block);
        }
        for (int n = 0; n <= 15; n++) {
            int b = n;
            ask("how ends " + b, x -> x.about(b, 6));
            ask("told in " + b, x -> x.about(b, 3));
        }
        ask("clear", ValueBench::clear);
        ask("count 1", x -> x.count(1));
    }
}
