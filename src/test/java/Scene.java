/** Codes of arguments, and objects that are ready for a test. */
final class Scene {
    static final int WHITE = 0xFFFFFF;
    /** The corners 0, 1, 2 and 1, 3, 2 of a squared scene: the two halves of the picture. */
    static final int UPPER = triangle(0, 1, 2);
    static final int LOWER = triangle(1, 3, 2);

    private static final int[][] BUSY_PLACES = {{-20, -30}, {270, 10}, {30, 280}, {260, 250}, {120, -60}, {130, 310}};

    private Scene() {
    }

    static int place(int x, int y) {
        return 384 * (y + 64) + x + 64;
    }

    static int triangle(int a, int b, int c) {
        return 36 * a + 6 * b + c;
    }

    static int box(int left, int right, int top, int bottom) {
        return 4096 * left + 256 * right + 16 * top + bottom;
    }

    /** Corners 0 .. 3 at the picture's four corners, all with one depth and colour. */
    static TileRenderer squared(int depth, int colour) {
        TileRenderer r = new TileRenderer();
        square(r, depth, colour);
        return r;
    }

    static void square(TileRenderer r, int depth, int colour) {
        r.corner(0, place(0, 0), depth, colour);
        r.corner(1, place(256, 0), depth, colour);
        r.corner(2, place(0, 256), depth, colour);
        r.corner(3, place(256, 256), depth, colour);
    }

    static void drawSquare(TileRenderer r) {
        r.draw(UPPER);
        r.draw(LOWER);
    }

    /** A picture in which no two pixels in a row or column are alike. */
    static TileRenderer slanted() {
        TileRenderer r = new TileRenderer();
        r.corner(0, place(0, 0), 1, 0);
        r.corner(1, place(256, 0), 1, 0xFF0000);
        r.corner(2, place(0, 256), 1, 0x00FF00);
        r.corner(3, place(256, 256), 1, 0xFFFF00);
        drawSquare(r);
        return r;
    }

    /** A number in the upper half, whose weights are 256 times 256 - MX - MY, MX and MY. */
    static int sloped(int x, int y, int pA, int pB, int pC) {
        int mx = 16 * x + 8;
        int my = 16 * y + 8;
        return ((256 - mx - my) * pA + mx * pB + my * pC) / 256;
    }

    /** Draws with corner k as it is, and holds if its place, depth, colour, U and V are 0. */
    static void cornerIsAtFirst(String when, TileRenderer r, int k) {
        int p = (k + 1) % 6;
        int q = (k + 2) % 6;
        String what = "corner " + k + " " + when + ", ";
        r.clear(0, 255, 0);
        r.corner(p, place(256, 0), 255, WHITE);
        r.corner(q, place(0, 256), 100, 0x3167A9);
        r.draw(triangle(k, p, q));
        for (int y = 0; y < 15; y++) {
            for (int x = 0; x + y < 15; x++) {
                int red = sloped(x, y, 0, 255, 0x31);
                int green = sloped(x, y, 0, 255, 0x67);
                int blue = sloped(x, y, 0, 255, 0xA9);
                Check.same(what + "depth", r.depth(x, y), sloped(x, y, 0, 255, 100));
                Check.same(what + "colour", r.colour(x, y), 65536 * red + 256 * green + blue);
            }
        }
        aimIsAtFirst(what, r, k, p, q);
    }

    /** Looks at every other column, so that all stays within the object's 512 calls. */
    private static void aimIsAtFirst(String what, TileRenderer r, int k, int p, int q) {
        r.aim(p, 127, 127);
        r.aim(q, 127, 99);
        for (int n = 0; n < 64; n++) {
            r.cell(n % 8, n / 8, 65536 * 36 * (n % 8) + 256 * 36 * (n / 8) + 255);
        }
        r.rule(7, 1);
        r.rule(0, 1);
        r.draw(triangle(k, p, q));
        for (int y = 0; y < 15; y++) {
            for (int x = 0; x + y < 15; x += 2) {
                int red = sloped(x, y, 0, 255, 0x31) * (36 * (sloped(x, y, 0, 127, 127) / 16)) / 255;
                int green = sloped(x, y, 0, 255, 0x67) * (36 * (sloped(x, y, 0, 127, 99) / 16)) / 255;
                int blue = sloped(x, y, 0, 255, 0xA9);
                Check.same(what + "colour by the pattern", r.colour(x, y), 65536 * red + 256 * green + blue);
            }
        }
    }

    /** Sets a corner of a busy object, with its numbers changed by what is told. */
    static int busyCorner(TileRenderer r, int k, int place, int depth, int colour) {
        int due = place(BUSY_PLACES[k][0], BUSY_PLACES[k][1]);
        return r.corner(k, due + place, 40 + 25 * k + depth, 0xFFE0C0 - 0x180F21 * k + colour);
    }

    static int busyAim(TileRenderer r, int k, int u, int v) {
        return r.aim(k, 21 * k + 5 + u, 120 - 23 * k + v);
    }

    /** An object in which nothing is as at first, after 91 calls. */
    static TileRenderer busy() {
        TileRenderer r = new TileRenderer();
        r.clear(0x405060, 200, 3);
        for (int k = 0; k < 6; k++) {
            busyCorner(r, k, 0, 0, 0);
            busyAim(r, k, 0, 0);
        }
        for (int k = 0; k < 64; k++) {
            r.cell(k % 8, k / 8, 0xFFFFFF - 0x020103 * k);
        }
        r.window(box(1, 14, 2, 13));
        int[] rules = {3, 1, 2, 2, 2, 9, 1, 1};
        for (int what = 0; what < 8; what++) {
            r.rule(what, rules[what]);
        }
        r.draw(triangle(0, 1, 2));
        r.draw(triangle(1, 3, 2));
        r.rule(1, 0);
        r.rule(0, 1);
        r.draw(triangle(0, 3, 5));
        return r;
    }
}
