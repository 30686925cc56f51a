import java.io.IOException;
import java.nio.file.Files;
import java.nio.file.Path;
import java.util.Arrays;
import java.util.HashSet;
import java.util.Set;
import java.util.function.Consumer;
import java.util.function.Supplier;
import java.util.function.ToIntFunction;

/** Tests of single sentences of the document, each told by its own words, which must stand there. */
final class Sentences {
    private static final Path DOC = Path.of("../shared/DOC.md");

    private final String name;
    private final Trial trial;
    private final String document;
    private final Set<String> told = new HashSet<>();
    private String words = "";
    private int answers = 0;

    Sentences(String name) throws IOException {
        this.name = name;
        trial = new Trial(name);
        document = Files.exists(DOC) ? Files.readString(DOC) : null;
        if (document == null) {
            System.out.println(name + ": " + DOC + " is not here, so the words are not looked up");
        }
    }

    /** A test of its own for one sentence. */
    void test(String sentence, Runnable test) {
        words = sentence;
        trial.holds("'" + words + "' stands in the document", document == null || document.contains(words));
        trial.holds("'" + words + "' has one test", told.add(words));
        answers = 0;
        test.run();
        trial.holds("'" + words + "' has been tested", answers > 0);
    }

    void close() {
        System.out.println(name + ": " + told.size() + " sentences");
        trial.close();
    }

    void due(String what, long got, long want) {
        answers++;
        trial.due("'" + words + "': " + what, got, want);
    }

    void holds(String what, boolean is) {
        due(what, is ? 1 : 0, 1);
    }

    // ---- texts ----

    void reads(String text, int sorrows) {
        due("trug '" + text + "'", Trial.tellTrug(new BeanTrug(), text), sorrows);
    }

    void trugFault(String text, int place, int kind) {
        due("trug '" + text + "'", Trial.tellTrug(new BeanTrug(), text), Trial.fault(place, kind));
    }

    void ruleReads(String text) {
        due("rule '" + text + "'", Trial.tellRule(new BeanTrug(), text), 0);
    }

    void ruleFault(String text, int place, int kind) {
        due("rule '" + text + "'", Trial.tellRule(new BeanTrug(), text), Trial.fault(place, kind));
    }

    // ---- calls behind which nothing has happened ----

    /** A call that is refused: what it answers, and that all is then as without it. */
    void refused(String what, Supplier<BeanTrug> maker, ToIntFunction<BeanTrug> call, int answer) {
        leavesAll(what, maker, call, answer, x -> { });
    }

    /** A call that does no more than another does: what it answers, and that all is then as behind the other. */
    void leavesAll(String what, Supplier<BeanTrug> maker, ToIntFunction<BeanTrug> call, int answer,
            Consumer<BeanTrug> other) {
        BeanTrug called = maker.get();
        BeanTrug spared = maker.get();
        due(what, call.applyAsInt(called), answer);
        other.accept(spared);
        int[] is = Lived.allOf(called);
        int[] would = Lived.allOf(spared);
        boolean alike = Arrays.equals(is, would);
        holds(what + ": nothing else happens" + (alike ? "" : ", but " + difference(is, would)), alike);
    }

    /** Calls that ask only: all is behind them as it was. */
    void changesNothing(String what, Supplier<BeanTrug> maker, Consumer<BeanTrug> calls) {
        refused(what, maker, x -> {
            calls.accept(x);
            return 0;
        }, 0);
    }

    /** A call that does something: so that a test that finds nothing changed is known to see such changes. */
    void changes(String what, Supplier<BeanTrug> maker, ToIntFunction<BeanTrug> call, int answer) {
        BeanTrug called = maker.get();
        due(what, call.applyAsInt(called), answer);
        holds(what + ": something happens", !Arrays.equals(Lived.allOf(called), Lived.allOf(maker.get())));
    }

    private static String difference(int[] is, int[] would) {
        int at = Arrays.mismatch(is, would);
        return "answer " + at + " of " + Arrays.toString(is) + " and " + Arrays.toString(would);
    }
}
