import java.util.ArrayList;
import java.util.List;
import java.util.function.Consumer;

/** Codes of arguments, and objects that are ready for a test. */
final class Scene {
    static final int WHITE = 0xFFFFFF;
    /** The corners 0, 1, 2 and 1, 3, 2 of a squared scene: the two halves of the picture. */
    static final int UPPER = triangle(0, 1, 2);
    static final int LOWER = triangle(1, 3, 2);

    private Scene() {
    }

    static int place(int x, int y) {
        return 384 * (y + 64) + x + 64;
    }

    static int triangle(int a, int b, int c) {
        return 36 * a + 6 * b + c;
    }

    static int box(int left, int right, int top, int bottom) {
        return 4096 * left + 256 * right + 16 * top + bottom;
    }

    /** Corners 0 .. 3 at the picture's four corners, all with one depth and colour. */
    static TileRenderer squared(int depth, int colour) {
        TileRenderer r = new TileRenderer();
        square(r, depth, colour);
        return r;
    }

    static void square(TileRenderer r, int depth, int colour) {
        r.corner(0, place(0, 0), depth, colour);
        r.corner(1, place(256, 0), depth, colour);
        r.corner(2, place(0, 256), depth, colour);
        r.corner(3, place(256, 256), depth, colour);
    }

    static void drawSquare(TileRenderer r) {
        r.draw(UPPER);
        r.draw(LOWER);
    }

    /** A number in the upper half, whose weights are 256 times 256 - MX - MY, MX and MY. */
    static int sloped(int x, int y, int pA, int pB, int pC) {
        int mx = 16 * x + 8;
        int my = 16 * y + 8;
        return ((256 - mx - my) * pA + mx * pB + my * pC) / 256;
    }

    /** Draws with corner k as it is, and holds if its place, depth, colour, U and V are 0. */
    static void cornerIsAtFirst(String when, TileRenderer r, int k) {
        int p = (k + 1) % 6;
        int q = (k + 2) % 6;
        r.clear(0, 255, 0);
        r.corner(p, place(256, 0), 255, WHITE);
        r.corner(q, place(0, 256), 100, WHITE);
        r.aim(p, 127, 127);
        r.aim(q, 127, 127);
        for (int n = 0; n < 64; n++) {
            r.cell(n % 8, n / 8, 65536 * 36 * (n % 8) + 256 * 36 * (n / 8) + 255);
        }
        r.rule(7, 1);
        r.draw(triangle(k, p, q));
        for (int y = 0; y < 15; y++) {
            for (int x = 0; x + y < 15; x++) {
                String what = " at " + x + ", " + y + " with corner " + k + " " + when;
                Check.same("depth" + what, r.depth(x, y), sloped(x, y, 0, 255, 100));
                int s = sloped(x, y, 0, 255, 255);
                int part = s * (36 * (sloped(x, y, 0, 127, 127) / 16)) / 255;
                Check.same("colour" + what, r.colour(x, y), 65536 * part + 256 * part + s);
            }
        }
    }

    /** An object in which nothing is as at first, so that any change of it shows in a probe. */
    static TileRenderer busy() {
        TileRenderer r = new TileRenderer();
        r.clear(0x405060, 200, 3);
        int[][] places = {{-20, -30}, {270, 10}, {30, 280}, {260, 250}, {120, -60}, {130, 319}};
        for (int k = 0; k < 6; k++) {
            r.corner(k, place(places[k][0], places[k][1]), 40 + 25 * k, 0xFFE0C0 - 0x180F21 * k);
            r.aim(k, 21 * k, 127 - 23 * k);
        }
        for (int k = 0; k < 64; k++) {
            r.cell(k % 8, k / 8, 0xFFFFFF - 0x020103 * k);
        }
        r.window(box(1, 14, 2, 13));
        r.rule(0, 3);
        r.rule(2, 2);
        r.rule(3, 2);
        r.rule(4, 2);
        r.rule(5, 9);
        r.rule(7, 1);
        r.draw(triangle(0, 1, 2));
        r.rule(1, 0);
        return r;
    }

    /** Answers that tell all of an object's state: picture, corners, pattern, rules and hits. */
    static List<Integer> probe(TileRenderer r) {
        List<Integer> answers = new ArrayList<>();
        answers.add(r.digest());
        answers.add(r.hits());
        int[] triangles = {triangle(0, 1, 2), triangle(3, 2, 1), triangle(0, 4, 5), triangle(5, 4, 1),
            triangle(4, 3, 2), triangle(0, 1, 5)};
        for (int t : triangles) {
            answers.add(r.covered(t));
            answers.add(r.draw(t));
            answers.add(r.digest());
            answers.add(r.hits());
        }
        for (int k = 0; k < 16; k++) {
            answers.add(r.colour(k, 5 * k % 16));
            answers.add(r.depth(k, 5 * k % 16));
            answers.add(r.mark(k, 5 * k % 16));
        }
        for (int k = 0; k < 64; k++) {
            answers.add(r.cell(k % 8, k / 8, 0));
        }
        for (int what = 0; what < 8; what++) {
            answers.add(r.rule(what, 0));
        }
        return answers;
    }

    /** Holds if a busy object answers everything afterwards as if the calls had not been made. */
    static void changesNothing(String what, Consumer<TileRenderer> calls) {
        TileRenderer touched = busy();
        calls.accept(touched);
        Check.isTrue(what + " changes nothing", probe(touched).equals(probe(busy())));
    }
}
