import java.util.ArrayList;
import java.util.List;

/**
 * One test for each sentence of the document's 'Terms' that names a boundary case of what a triangle
 * covers, with what promises 6, 16 and 17 add to it.
 */
public final class CoverBoundsTest {
    private static final String TERMS = "Terms";
    private static final int[][] FRONT = {{0, 1, 2}, {1, 2, 0}, {2, 0, 1}};
    private static final int[][] BEHIND = {{0, 2, 1}, {2, 1, 0}, {1, 0, 2}};

    public static void main(String[] args) {
        Check.sentence(TERMS, "Pixel (x, y) has its middle at the place (16 x + 8, 16 y + 8)", CoverBoundsTest::middles);
        Check.sentence(TERMS, "has the AREA SIDE(A, B, C). If it is 0, nothing is drawn", CoverBoundsTest::areaIsZero);
        Check.sentence(TERMS, "If it is below 0, it is seen from behind: it is left out", CoverBoundsTest::leftOut);
        Check.sentence(TERMS, "or else B and C change places for everything that follows", CoverBoundsTest::notLeftOut);
        Check.sentence(TERMS, "SIDE(P, Q, M) is above 0", CoverBoundsTest::besideAnEdge);
        Check.sentence(TERMS, "or is 0 and QY < PY", CoverBoundsTest::onAnEdgeThatGoesUp);
        Check.sentence(TERMS, "or is 0 and QY = PY and QX > PX", CoverBoundsTest::onALevelEdge);
        Check.sentence(TERMS, "for each of the three edges P to Q", CoverBoundsTest::onTwoEdges);
        Check.sentence(TERMS, "X and Y from -64 to 319", CoverBoundsTest::beyondThePicture);
        Check.sentence(TERMS, "for each covered pixel that lies in the window", CoverBoundsTest::sidesOfTheWindow);
        Check.sentence("Promise 6", "it has no pixels if left is above right", CoverBoundsTest::leftAboveRight);
        Check.sentence("Promise 6", "or top above bottom", CoverBoundsTest::topAboveBottom);
        Check.sentence("Promise 16", "How many pixels of the whole picture", CoverBoundsTest::mostAndFewest);
        Check.sentence("Promise 16", "nothing is drawn", CoverBoundsTest::coveredDrawsNothing);
        Check.sentence("Promise 17", "covered: 0 if the AREA is 0", CoverBoundsTest::coveredWithoutArea);
        Check.sentence("Promise 17", "or the triangle is left out because it is seen from behind",
            CoverBoundsTest::coveredFromBehind);
        Check.sentence("Promise 17", "the window plays no part", CoverBoundsTest::coveredWithoutWindow);
        Check.end();
    }

    /** Corners 0, 1, 2 at places (X, Y) told in a row; every hit marks its pixel. */
    private static TileRenderer placed(int... places) {
        TileRenderer r = new TileRenderer();
        for (int k = 0; k < 3; k++) {
            r.corner(k, Scene.place(places[2 * k], places[2 * k + 1]), 5, 1);
        }
        r.rule(4, 1);
        r.rule(5, 1);
        return r;
    }

    private static List<Integer> marked(TileRenderer r) {
        List<Integer> found = new ArrayList<>();
        for (int pixel = 0; pixel < 256; pixel++) {
            if (r.mark(pixel % 16, pixel / 16) == 1) {
                found.add(pixel);
            }
        }
        return found;
    }

    /** Draws in some orders of the corners; each must hit just the pixels that are due. */
    private static void draws(int[][] orders, int leftOut, List<Integer> due, int... places) {
        for (int[] o : orders) {
            TileRenderer r = placed(places);
            r.rule(6, leftOut);
            int code = Scene.triangle(o[0], o[1], o[2]);
            String what = "in the order " + o[0] + " " + o[1] + " " + o[2] + " of " + List.of(places[0], places[1],
                places[2], places[3], places[4], places[5]);
            Check.same("covered " + what, r.covered(code), due.size());
            Check.same("draw " + what, r.draw(code), 0);
            Check.same("hits " + what, r.hits(), due.size());
            List<Integer> found = marked(r);
            Check.isTrue("the pixels are " + due + ", not " + found + " " + what, found.equals(due));
        }
    }

    /** The first, second and third place go round the triangle with its area above 0. */
    private static void covers(List<Integer> due, int... places) {
        draws(FRONT, 0, due, places);
        draws(FRONT, 1, due, places);
        draws(BEHIND, 0, due, places);
    }

    /** The smallest triangles at a middle: they begin, or end, right at it. */
    private static void middles() {
        int[][] pixels = {{0, 0}, {15, 0}, {0, 15}, {15, 15}, {6, 9}};
        for (int[] xy : pixels) {
            int mx = 16 * xy[0] + 8;
            int my = 16 * xy[1] + 8;
            List<Integer> itself = List.of(16 * xy[1] + xy[0]);
            covers(itself, mx, my, mx + 1, my, mx, my + 1);
            covers(itself, mx - 1, my - 1, mx + 1, my, mx, my + 1);
            covers(List.of(), mx + 1, my, mx + 2, my, mx + 1, my + 1);
            covers(List.of(), mx, my + 1, mx + 1, my + 1, mx, my + 2);
        }
    }

    private static void areaIsZero() {
        int[][] lines = {{8, 8, 8, 8, 8, 8}, {8, 8, 40, 8, 8, 8}, {8, 8, 8, 8, 40, 8}, {40, 8, 8, 8, 8, 8},
            {8, 8, 24, 8, 40, 8}, {8, 8, 8, 24, 8, 40}, {8, 8, 24, 24, 40, 40}, {40, 8, 24, 24, 8, 40},
            {-64, -64, 128, 128, 319, 319}, {-64, 100, 319, 100, 5, 100}, {-64, -64, -64, -64, 319, 319}};
        for (int[] line : lines) {
            for (int leftOut = 0; leftOut < 2; leftOut++) {
                draws(FRONT, leftOut, List.of(), line);
                draws(BEHIND, leftOut, List.of(), line);
            }
        }
        // Just beside 0, at 1, it is drawn.
        draws(FRONT, 0, List.of(0), 8, 8, 9, 8, 8, 9);
        State.unchanged("a draw without area", r -> r.draw(Scene.triangle(3, 1, 3)));
    }

    private static void leftOut() {
        draws(BEHIND, 1, List.of(), 8, 8, 9, 8, 8, 9);
        draws(BEHIND, 1, List.of(), 7, 7, 41, 7, 7, 41);
        draws(BEHIND, 1, List.of(), -64, -64, 319, -64, -64, 319);
        draws(FRONT, 1, List.of(0), 8, 8, 9, 8, 8, 9);
        State.unchanged("a draw that is left out", r -> {
            r.rule(6, 1);
            r.draw(Scene.triangle(0, 2, 1));
        });
    }

    /** What follows is all the same: the edges, the weights and with them each number. */
    private static void notLeftOut() {
        draws(BEHIND, 0, List.of(0), 8, 8, 9, 8, 8, 9);
        for (int[] o : BEHIND) {
            TileRenderer r = new TileRenderer();
            int[][] numbers = {{0, 0, 200}, {256, 0, 20}, {0, 256, 100}};
            for (int k = 0; k < 3; k++) {
                int n = numbers[k][2];
                r.corner(k, Scene.place(numbers[k][0], numbers[k][1]), n, 65536 * n + 256 * (255 - n) + n / 2);
                r.aim(k, n / 2, 127 - n / 2);
            }
            for (int k = 0; k < 64; k++) {
                r.cell(k % 8, k / 8, k % 8 == 0 ? 0x0000FF : 0xFFFFFF);
            }
            r.rule(7, 1);
            r.draw(Scene.triangle(o[0], o[1], o[2]));
            for (int y = 0; y < 15; y++) {
                for (int x = 0; x + y < 15; x++) {
                    Check.same("depth from behind", r.depth(x, y), Scene.sloped(x, y, 200, 20, 100));
                    int red = Scene.sloped(x, y, 200, 20, 100);
                    int green = Scene.sloped(x, y, 55, 235, 155);
                    int blue = Scene.sloped(x, y, 100, 10, 50);
                    boolean white = Scene.sloped(x, y, 100, 10, 50) >= 16;
                    Check.same("colour from behind", r.colour(x, y), white ? 65536 * red + 256 * green + blue : blue);
                }
            }
        }
    }

    /** An edge passes the middle (24, 24) at the least distance, on the one side and on the other. */
    private static void besideAnEdge() {
        covers(List.of(17), 23, 30, 23, 20, 33, 24);
        covers(List.of(), 25, 30, 25, 20, 35, 24);
        covers(List.of(17), 20, 23, 30, 23, 24, 33);
        covers(List.of(), 20, 25, 30, 25, 24, 35);
        covers(List.of(17), 25, 20, 25, 30, 15, 24);
        covers(List.of(), 23, 20, 23, 30, 13, 24);
        covers(List.of(17), 30, 25, 20, 25, 24, 15);
        covers(List.of(), 30, 23, 20, 23, 24, 13);
        // SIDE is 1, the other way round it is -1.
        covers(List.of(17), 18, 29, 25, 23, 31, 31);
        covers(List.of(), 25, 23, 18, 29, 16, 16);
        covers(List.of(17), 30, 19, 23, 25, 20, 18);
        covers(List.of(), 23, 25, 30, 19, 31, 31);
    }

    /** The edge goes through the middle (24, 24) of pixel 17; drawn downward, it leaves the pixel out. */
    private static void onAnEdgeThatGoesUp() {
        covers(List.of(17), 24, 32, 24, 16, 34, 24);
        covers(List.of(), 24, 16, 24, 32, 14, 24);
        covers(List.of(17), 17, 31, 31, 17, 32, 32);
        covers(List.of(), 31, 17, 17, 31, 16, 16);
        covers(List.of(17), 31, 31, 17, 17, 32, 16);
        covers(List.of(), 17, 17, 31, 31, 16, 32);
        // The edge is nearly level: up counts, and neither left nor right does.
        covers(List.of(17), 12, 25, 36, 23, 24, 34);
        covers(List.of(), 36, 23, 12, 25, 24, 14);
        covers(List.of(17), 36, 25, 12, 23, 24, 14);
        covers(List.of(), 12, 23, 36, 25, 24, 34);
    }

    private static void onALevelEdge() {
        covers(List.of(17), 16, 24, 32, 24, 24, 34);
        covers(List.of(), 32, 24, 16, 24, 24, 14);
        // Level edges far from there, in the last row and column of pixels.
        covers(List.of(255), 240, 248, 256, 248, 248, 258);
        covers(List.of(), 256, 248, 240, 248, 248, 238);
    }

    /** A corner lies right at the middle, so that two edges have SIDE 0 there. */
    private static void onTwoEdges() {
        covers(List.of(17), 24, 24, 34, 24, 24, 34);
        covers(List.of(17), 24, 24, 34, 23, 34, 25);
        covers(List.of(17), 24, 24, 20, 14, 30, 34);
        // One of the two edges goes down, or is level and goes left.
        covers(List.of(), 24, 24, 34, 25, 25, 34);
        covers(List.of(), 24, 24, 34, 23, 34, 24);
        covers(List.of(), 24, 24, 14, 24, 24, 14);
        covers(List.of(), 24, 24, 24, 34, 14, 24);
        covers(List.of(), 24, 24, 24, 14, 34, 24);
        covers(List.of(), 24, 24, 30, 34, 18, 34);
        covers(List.of(), 24, 24, 18, 14, 30, 14);
    }

    /** Parts that lie outside have no pixels, and do no harm. */
    private static void beyondThePicture() {
        covers(List.of(), -64, -64, 7, -64, -64, 7);
        covers(List.of(), 319, 319, 249, 319, 319, 249);
        covers(List.of(), -64, 319, -64, 249, 7, 319);
        covers(List.of(), 319, -64, 319, 7, 249, -64);
        covers(List.of(0), -64, -64, 17, 8, 8, 17);
        covers(List.of(255), 319, 319, 239, 248, 248, 239);
        covers(List.of(240), -64, 319, 8, 239, 17, 248);
        covers(List.of(15), 319, -64, 248, 17, 239, 8);
    }

    private static void sidesOfTheWindow() {
        int[][] windows = {{0, 15, 0, 15}, {0, 0, 0, 15}, {15, 15, 0, 15}, {0, 15, 0, 0}, {0, 15, 15, 15},
            {1, 14, 1, 14}, {7, 8, 3, 5}, {3, 5, 7, 8}, {6, 6, 9, 9}, {0, 0, 0, 0}, {15, 15, 15, 15}};
        for (int[] w : windows) {
            hitsInWindow(w, (w[1] - w[0] + 1) * (w[3] - w[2] + 1));
        }
    }

    /** The whole picture is drawn; the pixels in the window are hit, and no others. */
    private static void hitsInWindow(int[] w, int count) {
        TileRenderer r = Scene.squared(5, 1);
        Check.same("window", r.window(Scene.box(w[0], w[1], w[2], w[3])), 0);
        Scene.drawSquare(r);
        String what = " in " + w[0] + " .. " + w[1] + ", " + w[2] + " .. " + w[3];
        Check.same("hits" + what, r.hits(), count);
        for (int pixel = 0; pixel < 256; pixel++) {
            int x = pixel % 16;
            int y = pixel / 16;
            boolean in = x >= w[0] && x <= w[1] && y >= w[2] && y <= w[3];
            Check.same("colour of " + x + ", " + y + what, r.colour(x, y), in ? 1 : 0);
        }
    }

    private static void leftAboveRight() {
        int[][] windows = {{1, 0, 0, 15}, {15, 14, 0, 15}, {15, 0, 0, 15}, {8, 7, 4, 4}};
        for (int[] w : windows) {
            hitsInWindow(w, 0);
        }
        hitsInWindow(new int[] {8, 8, 4, 4}, 1);
    }

    private static void topAboveBottom() {
        int[][] windows = {{0, 15, 1, 0}, {0, 15, 15, 14}, {0, 15, 15, 0}, {4, 4, 8, 7}, {9, 8, 9, 8}, {15, 0, 15, 0}};
        for (int[] w : windows) {
            hitsInWindow(w, 0);
        }
        hitsInWindow(new int[] {4, 4, 8, 8}, 1);
    }

    /** No triangle has room for all 256; a half of all places has the diagonal's pixels or has not. */
    private static void mostAndFewest() {
        TileRenderer r = new TileRenderer();
        r.corner(0, Scene.place(-64, -64), 1, 1);
        r.corner(1, Scene.place(319, -64), 1, 1);
        r.corner(2, Scene.place(319, 319), 1, 1);
        r.corner(3, Scene.place(-64, 319), 1, 1);
        r.corner(4, Scene.place(128, -64), 1, 1);
        r.corner(5, Scene.place(8, 8), 1, 1);
        Check.same("with the diagonal", r.covered(Scene.triangle(0, 1, 2)), 136);
        Check.same("without the diagonal", r.covered(Scene.triangle(0, 2, 3)), 120);
        Check.same("both halves by the other diagonal", r.covered(Scene.triangle(0, 1, 3))
            + r.covered(Scene.triangle(1, 2, 3)), 256);
        Check.same("a roof", r.covered(Scene.triangle(4, 2, 3)), roof());
        Check.same("none", r.covered(Scene.triangle(5, 5, 0)), 0);
    }

    /** Pixels under the two sloped sides of (128, -64), (319, 319), (-64, 319), which meet no middle. */
    private static int roof() {
        int count = 0;
        for (int my = 8; my < 256; my += 16) {
            for (int mx = 8; mx < 256; mx += 16) {
                boolean left = (my + 64) * 192 > (128 - mx) * 383;
                boolean right = (my + 64) * 191 > (mx - 128) * 383;
                count += left && right ? 1 : 0;
            }
        }
        return count;
    }

    private static void coveredDrawsNothing() {
        State.unchanged("covered", r -> {
            for (int code = 0; code < 216; code += 4) {
                Check.isTrue("covered answers", r.covered(code) >= 0);
            }
        });
    }

    private static void coveredWithoutArea() {
        TileRenderer r = placed(8, 8, 24, 24, 40, 40);
        for (int leftOut = 0; leftOut < 2; leftOut++) {
            r.rule(6, leftOut);
            Check.same("covered on a line", r.covered(Scene.triangle(0, 1, 2)), 0);
            Check.same("covered on a line, back", r.covered(Scene.triangle(2, 1, 0)), 0);
            Check.same("covered with a corner twice", r.covered(Scene.triangle(0, 2, 0)), 0);
            Check.same("covered with a corner three times", r.covered(Scene.triangle(1, 1, 1)), 0);
        }
    }

    private static void coveredFromBehind() {
        TileRenderer r = placed(8, 8, 40, 8, 8, 40);
        Check.same("covered from the front", r.covered(Scene.triangle(0, 1, 2)), 3);
        Check.same("covered from behind", r.covered(Scene.triangle(0, 2, 1)), 3);
        r.rule(6, 1);
        Check.same("covered from the front, as before", r.covered(Scene.triangle(0, 1, 2)), 3);
        Check.same("covered from behind, left out", r.covered(Scene.triangle(0, 2, 1)), 0);
        r.rule(6, 0);
        Check.same("covered from behind again", r.covered(Scene.triangle(0, 2, 1)), 3);
    }

    private static void coveredWithoutWindow() {
        int[] boxes = {Scene.box(0, 0, 0, 0), Scene.box(9, 8, 0, 15), Scene.box(0, 15, 9, 8), Scene.box(15, 15, 15, 15)};
        for (int box : boxes) {
            TileRenderer r = Scene.squared(5, 1);
            r.window(box);
            Check.same("covered with box " + box, r.covered(Scene.UPPER), 120);
            Check.same("covered with box " + box, r.covered(Scene.LOWER), 136);
        }
    }
}
