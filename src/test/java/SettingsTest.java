/** Promises 2 to 7 in ordinary use: what sets corners, pattern and rules. */
public final class SettingsTest {
    public static void main(String[] args) {
        corner();
        cornerKeepsAim();
        aim();
        cell();
        grab();
        window();
        rule();
        Check.end();
    }

    private static void corner() {
        for (int k = 0; k < 6; k++) {
            TileRenderer r = new TileRenderer();
            int p = (k + 1) % 6;
            int q = (k + 2) % 6;
            Check.same("corner", r.corner(k, Scene.place(0, 0), 17, 0x123456), 0);
            Check.same("corner", r.corner(p, Scene.place(256, 0), 17, 0x123456), 0);
            Check.same("corner", r.corner(q, Scene.place(0, 256), 17, 0x123456), 0);
            Check.same("draw", r.draw(Scene.triangle(k, p, q)), 0);
            Check.same("hits of corner " + k, r.hits(), 120);
            Check.same("colour of corner " + k, r.colour(3, 4), 0x123456);
            Check.same("depth of corner " + k, r.depth(3, 4), 17);
        }
        TileRenderer r = new TileRenderer();
        Check.same("first place", r.corner(0, 0, 0, 0), 0);
        Check.same("end of the first row", r.corner(1, 383, 255, 0xFFFFFF), 0);
        Check.same("last place", r.corner(2, 147455, 255, 0xFFFFFF), 0);
        // (-64, -64), (319, -64), (319, 319): the half above the diagonal; on
        // the diagonal the edge goes up from C to A, so its pixels are covered.
        Check.same("covered by the greatest triangle", r.covered(Scene.triangle(0, 1, 2)), 136);
        Check.same("its other half", r.corner(1, 383 * 384, 255, 0), 0);
        Check.same("covered by its other half", r.covered(Scene.triangle(0, 2, 1)), 120);
    }

    private static void cornerKeepsAim() {
        TileRenderer r = Scene.squared(1, Scene.WHITE);
        for (int k = 0; k < 4; k++) {
            r.aim(k, 40, 70);
        }
        r.cell(2, 4, 0x334455);
        r.rule(7, 1);
        Scene.square(r, 1, Scene.WHITE);
        Scene.drawSquare(r);
        Check.same("aims after corner", r.colour(9, 9), 0x334455);
    }

    private static void aim() {
        int[][] aims = {{0, 0}, {15, 16}, {16, 15}, {127, 0}, {0, 127}, {127, 127}, {111, 112}};
        for (int[] uv : aims) {
            TileRenderer r = Scene.squared(1, Scene.WHITE);
            for (int k = 0; k < 64; k++) {
                r.cell(k % 8, k / 8, 1000 + k);
            }
            for (int k = 0; k < 4; k++) {
                Check.same("aim", r.aim(k, uv[0], uv[1]), 0);
            }
            r.rule(7, 1);
            Scene.drawSquare(r);
            int due = 1000 + uv[1] / 16 * 8 + uv[0] / 16;
            Check.same("cell at " + uv[0] + ", " + uv[1], r.colour(2, 2), due);
            Check.same("cell at " + uv[0] + ", " + uv[1], r.colour(13, 12), due);
        }
        TileRenderer r = Scene.squared(1, Scene.WHITE);
        for (int k = 0; k < 64; k++) {
            r.cell(k % 8, k / 8, 1000 + k);
        }
        r.aim(1, 127, 0);
        r.aim(2, 0, 127);
        r.rule(7, 1);
        r.draw(Scene.UPPER);
        // U is MX * 127 / 256 and V is MY * 127 / 256.
        Check.same("U and V between corners", r.colour(2, 2), 1000 + 9);
        Check.same("U and V between corners", r.colour(14, 0), 1000 + 7);
        Check.same("U and V between corners", r.colour(5, 9), 1000 + 4 * 8 + 2);
        Check.same("both corners 4 and 5", r.aim(4, 1, 2) + r.aim(5, 127, 127), 0);
    }

    private static void cell() {
        TileRenderer r = new TileRenderer();
        for (int k = 0; k < 64; k++) {
            Check.same("cell at first", r.cell(k % 8, k / 8, 262143 * k), 0);
        }
        for (int k = 0; k < 64; k++) {
            Check.same("cell before", r.cell(k % 8, k / 8, Scene.WHITE), 262143 * k);
        }
        Check.same("cell before", r.cell(7, 0, 0), Scene.WHITE);
        Check.same("cell before", r.cell(0, 7, 1), Scene.WHITE);
        Check.same("cell before", r.cell(7, 0, 2), 0);
    }

    private static void grab() {
        int[][] places = {{0, 0}, {8, 8}, {0, 8}, {8, 0}, {3, 5}};
        for (int[] xy : places) {
            TileRenderer r = Scene.slanted();
            int digest = r.digest();
            int hits = r.hits();
            Check.same("grab", r.grab(xy[0], xy[1]), 0);
            Check.same("digest after grab", r.digest(), digest);
            Check.same("hits after grab", r.hits(), hits);
            for (int k = 0; k < 64; k++) {
                int due = r.colour(xy[0] + k % 8, xy[1] + k / 8);
                Check.same("grabbed cell " + k, r.cell(k % 8, k / 8, 0), due);
            }
        }
        TileRenderer r = Scene.slanted();
        int due = r.colour(4, 4);
        r.grab(0, 0);
        r.clear(5, 5, 5);
        Check.same("a cell after the picture changed", r.cell(4, 4, 0), due);
    }

    private static void window() {
        windowHits(0, 15, 0, 15, 256);
        windowHits(0, 0, 0, 0, 1);
        windowHits(15, 15, 15, 15, 1);
        windowHits(2, 6, 9, 11, 15);
        windowHits(9, 11, 2, 6, 15);
        windowHits(6, 2, 0, 15, 0);
        windowHits(0, 15, 6, 2, 0);
        windowHits(15, 0, 15, 0, 0);
        windowHits(0, 15, 4, 4, 16);
        windowHits(1, 0, 0, 0, 0);
        windowHits(0, 0, 1, 0, 0);
        TileRenderer r = Scene.squared(7, 0x010203);
        r.window(Scene.box(2, 6, 9, 11));
        Scene.drawSquare(r);
        for (int y = 0; y < 16; y++) {
            for (int x = 0; x < 16; x++) {
                boolean in = x >= 2 && x <= 6 && y >= 9 && y <= 11;
                Check.same("colour with a window", r.colour(x, y), in ? 0x010203 : 0);
            }
        }
    }

    private static void windowHits(int left, int right, int top, int bottom, int due) {
        TileRenderer r = Scene.squared(7, 1);
        Check.same("window", r.window(Scene.box(left, right, top, bottom)), 0);
        Scene.drawSquare(r);
        Check.same("hits in " + left + " " + right + " " + top + " " + bottom, r.hits(), due);
    }

    private static void rule() {
        int[] first = {2, 1, 0, 0, 0, 0, 0, 0};
        int[] greatest = {3, 1, 4, 2, 3, 15, 1, 1};
        TileRenderer r = new TileRenderer();
        for (int what = 0; what < 8; what++) {
            int before = first[what];
            for (int value = greatest[what]; value >= 0; value--) {
                Check.same("rule " + what + " to " + value, r.rule(what, value), before);
                before = value;
            }
            Check.same("rule " + what + " again", r.rule(what, greatest[what]), 0);
        }
        for (int what = 0; what < 8; what++) {
            Check.same("rule " + what + " is its own", r.rule(what, 0), greatest[what]);
        }
    }
}
