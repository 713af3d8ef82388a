import java.util.ArrayList;
import java.util.List;
import java.util.function.Consumer;

/**
 * One test for each sentence that says which arguments are good (promises 2 to 9, 11 to 13 and 16):
 * the least and the greatest good one, one below and one above, and the farthest numbers there are.
 */
public final class ArgumentBoundsTest {
    /** A call of which one argument is open, while the others are good. */
    private interface Call {
        int with(TileRenderer r, int value);
    }

    private static final int COLOUR = 16777215;
    private static final int PLACE = Scene.place(150, 60);
    private static final int[] GREATEST = {3, 1, 4, 2, 3, 15, 1, 1};

    public static void main(String[] args) {
        Check.sentence("these tests", "the state tells of every change", ArgumentBoundsTest::stateTells);
        corner();
        aim();
        cell();
        grab();
        window();
        rule();
        draw();
        clear();
        questions();
        covered();
        Check.sentence("Terms", "A refused call (an answer below 0) changes nothing", ArgumentBoundsTest::oneWrong);
        Check.sentence("Terms", "In every method the tests are made in the order named",
            ArgumentBoundsTest::nothingButWrong);
        Check.sentence("LANGUAGE.md, rule 7", "No call may ever throw or fail to end, for any arguments in any state",
            ArgumentBoundsTest::anyArguments);
        Check.end();
    }

    /** "changes nothing" would be an empty check if the state left anything out. */
    private static void stateTells() {
        List<Consumer<TileRenderer>> changes = new ArrayList<>();
        for (int n = 0; n < 6; n++) {
            int k = n;
            changes.add(r -> Check.same("corner", Scene.busyCorner(r, k, 1, 0, 0), 0));
            changes.add(r -> Check.same("corner", Scene.busyCorner(r, k, 384, 0, 0), 0));
            changes.add(r -> Check.same("corner", Scene.busyCorner(r, k, 0, 1, 0), 0));
            changes.add(r -> Check.same("corner", Scene.busyCorner(r, k, 0, 0, 1), 0));
            changes.add(r -> Check.same("corner", Scene.busyCorner(r, k, 0, 0, 256), 0));
            changes.add(r -> Check.same("corner", Scene.busyCorner(r, k, 0, 0, -65536), 0));
            changes.add(r -> Check.same("aim", Scene.busyAim(r, k, 1, 0), 0));
            changes.add(r -> Check.same("aim", Scene.busyAim(r, k, 0, 1), 0));
        }
        for (int n = 0; n < 64; n++) {
            int k = n;
            changes.add(r -> r.cell(k % 8, k / 8, 1));
        }
        int[] boxes = {Scene.box(0, 14, 2, 13), Scene.box(1, 15, 2, 13), Scene.box(1, 14, 3, 13), Scene.box(1, 14, 2, 12)};
        for (int box : boxes) {
            changes.add(r -> r.window(box));
        }
        int[] others = {2, 1, 3, 1, 1, 8, 0, 0};
        for (int n = 0; n < 8; n++) {
            int what = n;
            changes.add(r -> r.rule(what, others[what]));
        }
        changes.add(r -> r.draw(Scene.triangle(0, 1, 2)));
        changes.add(r -> r.grab(5, 6));
        changes.add(TileRenderer::reset);
        for (int n = 0; n < changes.size(); n++) {
            Check.isTrue("change " + n + " shows", !State.isUnchangedBy(changes.get(n)));
        }
    }

    /** The ends are taken; what lies beyond is refused, and a refused call changes nothing. */
    private static void bounds(String where, String words, int greatest, Call call) {
        Check.sentence(where, words, () -> {
            int[] wrong = {-1, greatest + 1, Integer.MIN_VALUE, Integer.MAX_VALUE};
            for (int value : wrong) {
                State.unchanged("with " + value + " a refused call",
                    r -> Check.same("with " + value, call.with(r, value), TileRenderer.BAD));
            }
            Check.isTrue("with 0 it is not refused", call.with(Scene.busy(), 0) >= 0);
            Check.isTrue("with " + greatest + " it is not refused", call.with(Scene.busy(), greatest) >= 0);
        });
    }

    private static void corner() {
        String where = "Promise 2";
        bounds(where, "corner is not 0 .. 5", 5, (r, value) -> r.corner(value, PLACE, 1, 1));
        for (int n = 0; n < 6; n += 5) {
            int k = n;
            bounds(where, "place not 0 .. 147455", 147455, (r, value) -> r.corner(k, value, 1, 1));
            bounds(where, "depth not 0 .. 255", 255, (r, value) -> r.corner(k, PLACE, value, 1));
            bounds(where, "or colour not good", COLOUR, (r, value) -> r.corner(k, PLACE, 1, value));
        }
        Check.sentence(where, "place is 384 * (Y + 64) + X + 64", ArgumentBoundsTest::endsOfPlaces);
        Check.sentence(where, "Sets place, depth and colour of a corner", ArgumentBoundsTest::endsOfCorners);
    }

    /** From (-64, -64) to the side where X is 319, a depth grows as X does; so it is with Y. */
    private static void endsOfPlaces() {
        TileRenderer across = new TileRenderer();
        across.corner(0, 0, 0, 0);
        across.corner(1, 383, 255, 0);
        across.corner(2, 147455, 255, 0);
        across.draw(Scene.triangle(0, 1, 2));
        TileRenderer down = new TileRenderer();
        down.corner(0, 0, 0, 0);
        down.corner(1, 147455, 255, 0);
        down.corner(2, 147072, 255, 0);
        down.draw(Scene.triangle(0, 1, 2));
        // 384 is where the next row begins, at (-64, -63).
        TileRenderer next = new TileRenderer();
        next.corner(0, 384, 0, 0);
        next.corner(1, 767, 0, 0);
        next.corner(2, 147455, 255, 0);
        next.rule(0, 1);
        next.draw(Scene.triangle(0, 1, 2));
        for (int y = 0; y < 16; y++) {
            for (int x = 0; x < 16; x++) {
                int mx = 16 * x + 8;
                int my = 16 * y + 8;
                String at = " at " + x + ", " + y;
                Check.same("depth across" + at, across.depth(x, y), x >= y ? 255 * (mx + 64) / 383 : 255);
                Check.same("depth down" + at, down.depth(x, y), x < y ? 255 * (my + 64) / 383 : 255);
                Check.same("depth from the next row" + at, next.depth(x, y), x >= y ? 255 * (my + 63) / 382 : 255);
            }
        }
    }

    /** Corners 0 and 5, depths 0 and 255, colours 0 and 16777215. */
    private static void endsOfCorners() {
        int[][] ends = {{0, 0}, {255, COLOUR}, {0, COLOUR}, {255, 0}};
        for (int[] end : ends) {
            TileRenderer r = new TileRenderer();
            r.clear(0x808080, 128, 0);
            r.rule(0, 1);
            Check.same("corner 0", r.corner(0, Scene.place(0, 0), end[0], end[1]), 0);
            Check.same("corner 3", r.corner(3, Scene.place(256, 0), end[0], end[1]), 0);
            Check.same("corner 5", r.corner(5, Scene.place(0, 256), end[0], end[1]), 0);
            r.draw(Scene.triangle(0, 3, 5));
            Check.same("hits", r.hits(), 120);
            Check.same("depth", r.depth(7, 7), end[0]);
            Check.same("colour", r.colour(7, 7), end[1]);
        }
    }

    private static void aim() {
        String where = "Promise 3";
        bounds(where, "corner is not 0 .. 5", 5, (r, value) -> r.aim(value, 64, 64));
        for (int n = 0; n < 6; n += 5) {
            int k = n;
            bounds(where + ", u", "or u or v (its U and V) not 0 .. 127", 127, (r, value) -> r.aim(k, value, 64));
            bounds(where + ", v", "or u or v (its U and V) not 0 .. 127", 127, (r, value) -> r.aim(k, 64, value));
        }
        Check.sentence(where, "Sets a corner's place in the pattern", ArgumentBoundsTest::endsOfAims);
    }

    private static void endsOfAims() {
        int[] ends = {0, 127};
        for (int u : ends) {
            for (int v : ends) {
                TileRenderer r = new TileRenderer();
                r.corner(0, Scene.place(0, 0), 1, COLOUR);
                r.corner(3, Scene.place(256, 0), 1, COLOUR);
                r.corner(5, Scene.place(0, 256), 1, COLOUR);
                r.cell(u / 16, v / 16, 0x123456);
                r.rule(7, 1);
                Check.same("aim of corner 0", r.aim(0, u, v), 0);
                Check.same("aim of corner 3", r.aim(3, u, v), 0);
                Check.same("aim of corner 5", r.aim(5, u, v), 0);
                r.draw(Scene.triangle(0, 3, 5));
                Check.same("colour by the cell at " + u + ", " + v, r.colour(7, 7), 0x123456);
            }
        }
    }

    private static void cell() {
        String where = "Promise 4";
        bounds(where + ", u", "u or v is not 0 .. 7", 7, (r, value) -> r.cell(value, 3, 1));
        bounds(where + ", v", "u or v is not 0 .. 7", 7, (r, value) -> r.cell(3, value, 1));
        bounds(where, "or colour not good", COLOUR, (r, value) -> r.cell(3, 3, value));
        Check.sentence(where, "Else answers the colour before", ArgumentBoundsTest::endsOfCells);
    }

    private static void endsOfCells() {
        TileRenderer r = new TileRenderer();
        int[][] cells = {{0, 0}, {7, 0}, {0, 7}, {7, 7}};
        for (int[] uv : cells) {
            Check.same("the first colour", r.cell(uv[0], uv[1], COLOUR), 0);
            Check.same("the greatest colour", r.cell(uv[0], uv[1], 0), COLOUR);
            Check.same("the least colour", r.cell(uv[0], uv[1], 1), 0);
            Check.same("the same colour", r.cell(uv[0], uv[1], 1), 1);
            Check.same("a refused call", r.cell(uv[0], uv[1], COLOUR + 1), TileRenderer.BAD);
            Check.same("the colour before a refused call", r.cell(uv[0], uv[1], 2), 1);
        }
    }

    private static void grab() {
        String where = "Promise 5";
        bounds(where + ", x", "x or y is not 0 .. 8", 8, (r, value) -> r.grab(value, 3));
        bounds(where + ", y", "x or y is not 0 .. 8", 8, (r, value) -> r.grab(3, value));
        Check.sentence(where, "The cells (u, v) of the pattern get the colours that the pixels (x + u, y + v) have now",
            ArgumentBoundsTest::endsOfGrabs);
    }

    private static void endsOfGrabs() {
        int[] ends = {0, 8};
        for (int x : ends) {
            for (int y : ends) {
                TileRenderer r = Scene.slanted();
                Check.same("grab", r.grab(x, y), 0);
                for (int k = 0; k < 64; k++) {
                    int due = r.colour(x + k % 8, y + k / 8);
                    Check.same("cell " + k + " grabbed at " + x + ", " + y, r.cell(k % 8, k / 8, 0), due);
                }
            }
        }
    }

    private static void window() {
        bounds("Promise 6", "box is not 0 .. 65535", 65535, (r, value) -> r.window(value));
        Check.sentence("Promise 6", "as 4096 * left + 256 * right + 16 * top + bottom", ArgumentBoundsTest::endsOfBoxes);
    }

    private static void endsOfBoxes() {
        int[][] pixelsOfBoxes = {{0, 0}, {65535, 255}, {0x00FF, 240}, {0xFF00, 15}};
        for (int[] way : pixelsOfBoxes) {
            TileRenderer r = Scene.squared(5, 1);
            Check.same("window", r.window(way[0]), 0);
            Scene.drawSquare(r);
            Check.same("hits in box " + way[0], r.hits(), 1);
            Check.same("colour in box " + way[0], r.colour(way[1] % 16, way[1] / 16), 1);
        }
    }

    private static void rule() {
        String where = "Promise 7";
        bounds(where, "what is not 0 .. 7", 7, (r, value) -> r.rule(value, 0));
        String[] words = {"0 depth test (0 .. 3)", "1 whether depths are written (0 or 1)", "2 mixing (0 .. 4)",
            "3 mark test (0 .. 2)", "4 mark change (0 .. 3)", "5 sign (0 .. 15)",
            "6 whether what is seen from behind is left out (0 or 1)", "7 whether the pattern is used (0 or 1)"};
        for (int n = 0; n < 8; n++) {
            int what = n;
            bounds(where, words[what], GREATEST[what], (r, value) -> r.rule(what, value));
        }
        Check.sentence(where, "Else answers the value before", ArgumentBoundsTest::endsOfRules);
    }

    private static void endsOfRules() {
        TileRenderer r = new TileRenderer();
        for (int what = 0; what < 8; what++) {
            r.rule(what, GREATEST[what]);
            Check.same("the greatest value of " + what, r.rule(what, 0), GREATEST[what]);
            Check.same("the least value of " + what, r.rule(what, 1), 0);
            Check.same("a refused call", r.rule(what, GREATEST[what] + 1), TileRenderer.BAD);
            Check.same("the value of " + what + " before a refused call", r.rule(what, 1), 1);
        }
    }

    private static void draw() {
        bounds("Promise 8", "corners is not 0 .. 215", 215, (r, value) -> r.draw(value));
        Check.sentence("Promise 8", "the triangle of three corners, 36 * A + 6 * B + C", ArgumentBoundsTest::endsOfDraws);
    }

    /** 0 and 215 are one corner three times; 8 and 207 are the first and last with three. */
    private static void endsOfDraws() {
        TileRenderer r = cornersOfTwoTriangles();
        Check.same("draw 0", r.draw(0), 0);
        Check.same("draw 215", r.draw(215), 0);
        Check.same("hits of 0 and 215", r.hits(), 0);
        Check.same("draw 8", r.draw(8), 0);
        Check.same("hits of 8", r.hits(), 120);
        Check.same("colour by 8", r.colour(0, 0), 1);
        Check.same("draw 207", r.draw(207), 0);
        Check.same("hits of 8 and 207", r.hits(), 256);
        Check.same("colour by 207", r.colour(15, 15), 2);
    }

    /** Corners 0, 1, 2 have the upper half of the picture, 5, 4, 3 the lower one. */
    private static TileRenderer cornersOfTwoTriangles() {
        TileRenderer r = new TileRenderer();
        r.corner(0, Scene.place(0, 0), 5, 1);
        r.corner(1, Scene.place(256, 0), 5, 1);
        r.corner(2, Scene.place(0, 256), 5, 1);
        r.corner(5, Scene.place(256, 0), 5, 2);
        r.corner(4, Scene.place(256, 256), 5, 2);
        r.corner(3, Scene.place(0, 256), 5, 2);
        return r;
    }

    private static void clear() {
        String where = "Promise 9";
        bounds(where, "colour is not good", COLOUR, (r, value) -> r.clear(value, 1, 1));
        bounds(where, "depth not 0 .. 255", 255, (r, value) -> r.clear(1, value, 1));
        bounds(where, "or mark not 0 .. 15", 15, (r, value) -> r.clear(1, 1, value));
        Check.sentence(where, "All pixels get this colour, depth and mark (rules and window play no part)",
            ArgumentBoundsTest::endsOfClears);
    }

    private static void endsOfClears() {
        int[][] ways = {{0, 0, 0}, {COLOUR, 255, 15}, {0, 255, 0}, {COLOUR, 0, 15}};
        for (int[] way : ways) {
            Consumer<TileRenderer> cleared = r -> {
                r.window(Scene.box(9, 8, 9, 8));
                r.rule(0, 0);
                r.rule(1, 0);
                r.rule(2, 4);
                r.rule(3, 1);
                r.rule(4, 0);
                Check.same("clear", r.clear(way[0], way[1], way[2]), 0);
            };
            List<Integer> pixels = State.after(cleared).subList(0, 3 * 256);
            for (int n = 0; n < pixels.size(); n++) {
                Check.same("answer " + n + " after clear", pixels.get(n), way[n / 256]);
            }
        }
    }

    private static void questions() {
        bounds("Promise 11, x", "x or y is not 0 .. 15", 15, (r, value) -> r.colour(value, 3));
        bounds("Promise 11, y", "x or y is not 0 .. 15", 15, (r, value) -> r.colour(3, value));
        bounds("Promise 12, x", "x or y is not 0 .. 15", 15, (r, value) -> r.depth(value, 3));
        bounds("Promise 12, y", "x or y is not 0 .. 15", 15, (r, value) -> r.depth(3, value));
        bounds("Promise 13, x", "x or y is not 0 .. 15", 15, (r, value) -> r.mark(value, 3));
        bounds("Promise 13, y", "x or y is not 0 .. 15", 15, (r, value) -> r.mark(3, value));
        Check.sentence("Promise 11", "The colour of a pixel", () -> endsOfPixels(0));
        Check.sentence("Promise 12", "The depth of a pixel", () -> endsOfPixels(1));
        Check.sentence("Promise 13", "The mark of a pixel", () -> endsOfPixels(2));
    }

    /** At the four corners of the picture just one pixel is drawn, and it alone answers so. */
    private static void endsOfPixels(int which) {
        int[] ends = {0, 15};
        int[] before = {0, 255, 0};
        int[] drawn = {COLOUR, 0, 15};
        for (int x : ends) {
            for (int y : ends) {
                TileRenderer r = Scene.squared(0, COLOUR);
                r.rule(4, 1);
                r.rule(5, 15);
                r.window(Scene.box(x, x, y, y));
                Scene.drawSquare(r);
                List<Integer> answers = new ArrayList<>();
                State.pixels(answers, which == 0 ? r::colour : which == 1 ? r::depth : r::mark);
                for (int pixel = 0; pixel < 256; pixel++) {
                    int due = pixel == 16 * y + x ? drawn[which] : before[which];
                    Check.same("pixel " + pixel, answers.get(pixel), due);
                }
            }
        }
    }

    private static void covered() {
        bounds("Promise 16", "corners is not 0 .. 215", 215, (r, value) -> r.covered(value));
        Check.sentence("Promise 16", "the triangle of three corners (as in draw)", () -> {
            TileRenderer r = cornersOfTwoTriangles();
            Check.same("covered 0", r.covered(0), 0);
            Check.same("covered 215", r.covered(215), 0);
            Check.same("covered 8", r.covered(8), 120);
            Check.same("covered 207", r.covered(207), 136);
        });
    }

    /** Every argument of every method is wrong once, all on one object. */
    private static void oneWrong() {
        int[] wrong = {-1, COLOUR + 1};
        State.unchanged("a row of refused calls", r -> {
            int answers = 0;
            for (int w : wrong) {
                answers += r.corner(w, PLACE, 1, 1) + r.corner(0, w, 1, 1) + r.corner(0, PLACE, w, 1)
                    + r.corner(0, PLACE, 1, w) + r.aim(w, 64, 64) + r.aim(0, w, 64) + r.aim(0, 64, w)
                    + r.cell(w, 3, 1) + r.cell(3, w, 1) + r.cell(3, 3, w) + r.grab(w, 3) + r.grab(3, w)
                    + r.window(w) + r.rule(w, 0) + r.rule(0, w) + r.draw(w) + r.clear(w, 1, 1) + r.clear(1, w, 1)
                    + r.clear(1, 1, w) + r.colour(w, 3) + r.colour(3, w) + r.depth(w, 3) + r.depth(3, w)
                    + r.mark(w, 3) + r.mark(3, w) + r.covered(w);
            }
            Check.same("the sum of 52 answers", answers, 52 * TileRenderer.BAD);
        });
    }

    /** Whichever test is made first, the answer is the same. */
    private static void nothingButWrong() {
        int[] wrong = {-1, COLOUR + 1, Integer.MIN_VALUE, Integer.MAX_VALUE};
        for (int w : wrong) {
            State.unchanged("a call with nothing but " + w, r -> {
                Check.same("corner", r.corner(w, w, w, w), TileRenderer.BAD);
                Check.same("aim", r.aim(w, w, w), TileRenderer.BAD);
                Check.same("cell", r.cell(w, w, w), TileRenderer.BAD);
                Check.same("grab", r.grab(w, w), TileRenderer.BAD);
                Check.same("rule", r.rule(w, w), TileRenderer.BAD);
                Check.same("clear", r.clear(w, w, w), TileRenderer.BAD);
                Check.same("colour", r.colour(w, w), TileRenderer.BAD);
                Check.same("depth", r.depth(w, w), TileRenderer.BAD);
                Check.same("mark", r.mark(w, w), TileRenderer.BAD);
            });
        }
    }

    /** Far more than 512 calls on one object: the answers are free, but there must be one. */
    private static void anyArguments() {
        int[] some = {Integer.MIN_VALUE, -16777216, -1, 0, 1, 5, 8, 15, 16, 215, 255, 65536, 147455, COLOUR,
            Integer.MAX_VALUE};
        TileRenderer r = Scene.busy();
        int calls = 0;
        for (int a : some) {
            for (int b : some) {
                for (int c : some) {
                    r.corner(a, b, c, a);
                    r.aim(a, b, c);
                    r.cell(a, b, c);
                    r.clear(a, b, c);
                    r.rule(a, b);
                    r.grab(b, c);
                    r.window(c);
                    r.draw(c);
                    r.covered(b);
                    r.colour(a, c);
                    r.depth(a, c);
                    r.mark(a, c);
                    r.digest();
                    r.hits();
                    calls += 14;
                }
                r.reset();
            }
        }
        Check.same("calls that came back", calls, 14 * 15 * 15 * 15);
    }
}
