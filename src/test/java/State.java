import java.util.ArrayList;
import java.util.List;
import java.util.function.Consumer;
import java.util.function.IntBinaryOperator;
import java.util.function.Supplier;

/** All of an object's state, as its answers tell it. */
final class State {
    private static final List<Integer> BUSY = of(Scene::busy);

    private State() {
    }

    /** Each way of asking has an object of its own, so that none gets more than its 512 calls. */
    static List<Integer> of(Supplier<TileRenderer> made) {
        List<Integer> answers = new ArrayList<>();
        pixels(answers, made.get()::colour);
        pixels(answers, made.get()::depth);
        pixels(answers, made.get()::mark);
        patternAndRules(answers, made.get());
        corners(answers, made.get());
        window(answers, made.get());
        return answers;
    }

    /** A busy object's state after some calls. */
    static List<Integer> after(Consumer<TileRenderer> calls) {
        return of(() -> {
            TileRenderer r = Scene.busy();
            calls.accept(r);
            return r;
        });
    }

    static boolean isUnchangedBy(Consumer<TileRenderer> calls) {
        return after(calls).equals(BUSY);
    }

    /** Holds if a busy object answers everything afterwards as if the calls had not been made. */
    static void unchanged(String what, Consumer<TileRenderer> calls) {
        Check.isTrue(what + " changes nothing", isUnchangedBy(calls));
    }

    /** What an answer says of all pixels, row by row. */
    static void pixels(List<Integer> answers, IntBinaryOperator question) {
        for (int pixel = 0; pixel < 256; pixel++) {
            answers.add(question.applyAsInt(pixel % 16, pixel / 16));
        }
    }

    private static void patternAndRules(List<Integer> answers, TileRenderer r) {
        answers.add(r.digest());
        answers.add(r.hits());
        for (int what = 0; what < 8; what++) {
            answers.add(r.rule(what, 0));
        }
        for (int k = 0; k < 64; k++) {
            answers.add(r.cell(k % 8, k / 8, 0));
        }
    }

    /** Rules by which all of a triangle is seen as it is. */
    private static void plainRules(TileRenderer r) {
        int[] plain = {1, 1, 0, 0, 0, 0, 0, 0};
        for (int what = 0; what < 8; what++) {
            r.rule(what, plain[what]);
        }
    }

    private static void corners(List<Integer> answers, TileRenderer r) {
        plainRules(r);
        r.window(Scene.box(0, 15, 0, 15));
        for (int k = 0; k < 64; k++) {
            r.cell(k % 8, k / 8, 0xFFFFFF - 0x030201 * k);
        }
        int[] triangles = {Scene.triangle(0, 1, 2), Scene.triangle(3, 2, 1), Scene.triangle(0, 4, 5),
            Scene.triangle(5, 4, 1), Scene.triangle(4, 3, 2), Scene.triangle(0, 1, 5)};
        for (int t : triangles) {
            for (int used = 0; used < 2; used++) {
                r.rule(7, used);
                r.clear(0, 255, 0);
                r.draw(t);
                answers.add(r.digest());
            }
            answers.add(r.covered(t));
        }
    }

    private static void window(List<Integer> answers, TileRenderer r) {
        plainRules(r);
        r.clear(0, 255, 0);
        Scene.square(r, 5, 1);
        Scene.drawSquare(r);
        pixels(answers, r::depth);
    }
}
