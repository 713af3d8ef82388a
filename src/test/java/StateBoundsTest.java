import java.util.List;
import java.util.function.Consumer;
import java.util.function.Supplier;

/**
 * One test for each sentence that names a boundary case of an object's state: how it begins (promise 1),
 * what reset keeps (10), what digest and hits tell (14 and 15), and the last of its 512 calls.
 */
public final class StateBoundsTest {
    private static final int[] RULES_AT_FIRST = {2, 1, 0, 0, 0, 0, 0, 0};
    /** The sum of 16 * y + x + 1 over all pixels. */
    private static final int WEIGHTS = 32896;

    public static void main(String[] args) {
        Check.sentence("What it is", "at most 512 calls after it has been made", StateBoundsTest::lastCall);
        Check.sentence("The public face", "public static final int BAD = -1",
            () -> Check.same("BAD", TileRenderer.BAD, -1));
        Check.sentence("Terms", "At first all colours are 0, all depths 255, all marks 0", StateBoundsTest::newPicture);
        Check.sentence("Terms", "each with a colour; all are 0 at first",
            () -> cellsAreAtFirst(new TileRenderer()));
        Check.sentence("Terms", "At first all of these are 0",
            () -> cornersAreAtFirst("at first", TileRenderer::new));
        Check.sentence("Terms", "At first: the window is the whole picture",
            () -> windowIsAtFirst(new TileRenderer()));
        Check.sentence("Terms", "depth test 2, depths are written, mixing 0, mark test 0, mark change 0, sign 0, "
            + "nothing is left out, no pattern", () -> rulesAreAtFirst(new TileRenderer()));
        Check.sentence("Terms", "Questions change nothing", StateBoundsTest::questions);
        String reset = "All corners, the pattern and the rules become what they are at first";
        Check.sentence("Promise 10", reset, () -> cornersAreAtFirst("after reset", StateBoundsTest::afterReset));
        Check.sentence("Promise 10", reset, () -> cellsAreAtFirst(afterReset()));
        Check.sentence("Promise 10", reset, StateBoundsTest::rulesAfterReset);
        Check.sentence("Promise 10", "the picture stays", StateBoundsTest::pictureAfterReset);
        Check.sentence("Promise 14", "(16 * y + x + 1) times (colour + 3 * depth + 7 * mark)",
            StateBoundsTest::digestOfOnePixel);
        Check.sentence("Promise 14", "(wrapping)", StateBoundsTest::digestWraps);
        Check.sentence("Promise 15", "How often pixels were hit so far", StateBoundsTest::hits);
        Check.sentence("Promise 15", "(since the beginning)", StateBoundsTest::hitsStay);
        Check.end();
    }

    private static TileRenderer afterReset() {
        TileRenderer r = Scene.busy();
        r.reset();
        return r;
    }

    /** Six calls, 505 draws, and the call that is the 512th; a later one may answer anything. */
    private static void lastCall() {
        Consumer<TileRenderer> until = r -> {
            r.rule(0, 1);
            r.rule(4, 2);
            for (int n = 0; n < 505; n++) {
                Check.same("draw " + n, r.draw(Scene.LOWER), 0);
            }
        };
        TileRenderer hits = Scene.squared(5, 1);
        until.accept(hits);
        Check.same("hits as the last call", hits.hits(), 505 * 136);
        TileRenderer mark = Scene.squared(5, 1);
        until.accept(mark);
        Check.same("mark as the last call", mark.mark(15, 15), 505 % 16);
        TileRenderer refused = Scene.squared(5, 1);
        until.accept(refused);
        Check.same("a refused last call", refused.draw(216), TileRenderer.BAD);
    }

    private static void newPicture() {
        List<Integer> pixels = State.of(TileRenderer::new).subList(0, 3 * 256);
        int[] first = {0, 255, 0};
        for (int n = 0; n < pixels.size(); n++) {
            Check.same("answer " + n + " at first", pixels.get(n), first[n / 256]);
        }
        Check.same("digest at first", new TileRenderer().digest(), WEIGHTS * 765);
        Check.same("hits at first", new TileRenderer().hits(), 0);
    }

    private static void cellsAreAtFirst(TileRenderer r) {
        for (int k = 0; k < 64; k++) {
            Check.same("cell " + k, r.cell(k % 8, k / 8, 1), 0);
        }
    }

    private static void cornersAreAtFirst(String when, Supplier<TileRenderer> made) {
        for (int k = 0; k < 6; k++) {
            Scene.cornerIsAtFirst(when, made.get(), k);
        }
        TileRenderer r = made.get();
        for (int code = 0; code < 216; code++) {
            Check.same("covered(" + code + ") " + when, r.covered(code), 0);
        }
    }

    private static void windowIsAtFirst(TileRenderer r) {
        int hits = r.hits();
        r.clear(0, 255, 0);
        Scene.square(r, 5, 1);
        Scene.drawSquare(r);
        Check.same("hits in the first window", r.hits() - hits, 256);
        for (int pixel = 0; pixel < 256; pixel++) {
            Check.same("colour in the first window", r.colour(pixel % 16, pixel / 16), 1);
        }
    }

    private static void rulesAreAtFirst(TileRenderer r) {
        for (int what = 0; what < 8; what++) {
            Check.same("rule " + what + " at first", r.rule(what, 1), RULES_AT_FIRST[what]);
        }
    }

    private static void questions() {
        State.unchanged("colour", r -> r.colour(0, 15));
        State.unchanged("depth", r -> r.depth(15, 0));
        State.unchanged("mark", r -> r.mark(15, 15));
        State.unchanged("digest", TileRenderer::digest);
        State.unchanged("hits", TileRenderer::hits);
        State.unchanged("covered", r -> r.covered(Scene.triangle(0, 1, 2)));
    }

    private static void rulesAfterReset() {
        rulesAreAtFirst(afterReset());
        windowIsAtFirst(afterReset());
        TileRenderer r = Scene.busy();
        r.window(Scene.box(9, 8, 9, 8));
        r.reset();
        windowIsAtFirst(r);
    }

    /** Colours, depths, marks and hits of a busy object; twice reset is no other thing. */
    private static void pictureAfterReset() {
        List<Integer> before = State.of(Scene::busy).subList(0, 3 * 256);
        Check.isTrue("once", State.after(TileRenderer::reset).subList(0, 3 * 256).equals(before));
        Check.isTrue("twice", State.after(r -> {
            r.reset();
            r.reset();
        }).subList(0, 3 * 256).equals(before));
        TileRenderer r = Scene.busy();
        int digest = r.digest();
        r.reset();
        Check.same("digest after reset", r.digest(), digest);
    }

    /** Each pixel alone is drawn over a picture whose digest is 0. */
    private static void digestOfOnePixel() {
        int[][] ways = {{1, 0, 0}, {0, 1, 0}, {0, 0, 1}, {Scene.WHITE, 255, 15}};
        for (int pixel = 0; pixel < 256; pixel++) {
            for (int[] way : ways) {
                TileRenderer r = Scene.squared(way[1], way[0]);
                r.clear(0, 0, 0);
                Check.same("digest of nothing", r.digest(), 0);
                r.rule(0, 1);
                r.rule(4, 1);
                r.rule(5, way[2]);
                r.window(Scene.box(pixel % 16, pixel % 16, pixel / 16, pixel / 16));
                Scene.drawSquare(r);
                long due = (pixel + 1L) * (way[0] + 3L * way[1] + 7L * way[2]);
                Check.same("digest of pixel " + pixel, r.digest(), (int) due);
            }
        }
    }

    /** Just below and above 2 to the 31st and 32nd, and the greatest sum there is. */
    private static void digestWraps() {
        TileRenderer r = new TileRenderer();
        r.clear(65280, 0, 0);
        Check.same("the last sum that does not wrap", r.digest(), 2147450880);
        r.clear(65281, 0, 0);
        Check.same("the first sum that wraps", r.digest(), -2147483520);
        r.clear(130561, 0, 0);
        Check.same("the last sum below 0", r.digest(), -32640);
        r.clear(130562, 0, 0);
        Check.same("a sum that wraps to above 0", r.digest(), 256);
        r.clear(16777215, 255, 15);
        Check.same("the greatest sum", r.digest(), (int) (WEIGHTS * (16777215L + 765 + 105)));
        // Depths and marks have their part in the wrapping.
        r.clear(65280, 0, 1);
        Check.same("a sum that wraps by its marks", r.digest(), (int) (WEIGHTS * 65287L));
        r.clear(65280, 1, 0);
        Check.same("a sum that wraps by its depths", r.digest(), (int) (WEIGHTS * 65283L));
    }

    private static void hits() {
        TileRenderer r = Scene.squared(5, 0);
        Check.same("hits at first", r.hits(), 0);
        r.draw(Scene.triangle(0, 0, 0));
        Check.same("hits without area", r.hits(), 0);
        r.window(Scene.box(0, 0, 0, 0));
        r.draw(Scene.UPPER);
        Check.same("one hit", r.hits(), 1);
        r.draw(Scene.UPPER);
        Check.same("no hit where the depth is equal", r.hits(), 1);
        r.rule(0, 3);
        r.draw(Scene.UPPER);
        Check.same("the same pixel again", r.hits(), 2);
        r.rule(1, 0);
        r.rule(2, 4);
        r.draw(Scene.UPPER);
        Check.same("a hit that changes nothing of the pixel", r.hits(), 3);
        r.window(Scene.box(1, 0, 0, 0));
        r.draw(Scene.UPPER);
        Check.same("no hit without a window", r.hits(), 3);
        Check.same("draw", r.draw(216), TileRenderer.BAD);
        Check.same("no hit by a refused draw", r.hits(), 3);
    }

    private static void hitsStay() {
        TileRenderer r = Scene.squared(5, 1);
        Scene.drawSquare(r);
        Check.same("hits", r.hits(), 256);
        r.clear(0, 255, 0);
        Check.same("hits after clear", r.hits(), 256);
        r.reset();
        Check.same("hits after reset", r.hits(), 256);
        Scene.square(r, 5, 1);
        Scene.drawSquare(r);
        Check.same("hits before and after", r.hits(), 512);
    }
}
