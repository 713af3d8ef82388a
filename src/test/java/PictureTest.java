/** Promises 1, 9 and 11 to 15 in ordinary use: a new object, clear, and the questions about the picture. */
public final class PictureTest {
    public static void main(String[] args) {
        newRules();
        clear();
        questionsAboutPixels();
        digest();
        hits();
        objectsAreApart();
        Check.end();
    }

    private static void everyPixel(TileRenderer r, int colour, int depth, int mark, int seed) {
        for (int k = seed; k < 256; k += 2) {
            int x = k % 16;
            int y = k / 16;
            Check.same("colour(" + x + ", " + y + ")", r.colour(x, y), colour);
            Check.same("depth(" + x + ", " + y + ")", r.depth(x, y), depth);
            Check.same("mark(" + x + ", " + y + ")", r.mark(x, y), mark);
        }
    }

    private static void newRules() {
        TileRenderer s = Scene.squared(5, Scene.WHITE);
        s.draw(Scene.UPPER);
        Check.same("hits by the rules at first", s.hits(), 120);
        Check.same("mark by the rules at first", s.mark(5, 5), 0);
        Check.same("colour by the rules at first", s.colour(5, 5), Scene.WHITE);
        Check.same("depth by the rules at first", s.depth(5, 5), 5);
        s.draw(Scene.UPPER);
        Check.same("hits by the depth test at first", s.hits(), 120);
        s.draw(Scene.triangle(1, 2, 3));
        Check.same("hits from behind at first", s.hits(), 256);
        s.rule(7, 1);
        s.rule(0, 1);
        Scene.drawSquare(s);
        for (int k = 0; k < 16; k++) {
            Check.same("colour by the new pattern", s.colour(k, k), 0);
        }
    }

    private static void clear() {
        int[][] ways = {{0, 0, 0}, {0xFFFFFF, 255, 15}, {0x123456, 77, 9}};
        for (int[] way : ways) {
            for (int seed = 0; seed < 2; seed++) {
                TileRenderer r = Scene.busy();
                int hits = r.hits();
                r.window(Scene.box(9, 2, 9, 2));
                r.rule(0, 0);
                Check.same("clear", r.clear(way[0], way[1], way[2]), 0);
                Check.same("hits after clear", r.hits(), hits);
                Check.same("depth test after clear", r.rule(0, 0), 0);
                Check.same("sign after clear", r.rule(5, 0), 9);
                // A busy object has had its calls; digest tells of all its pixels.
                int one = way[0] + 3 * way[1] + 7 * way[2];
                Check.same("digest after clear", r.digest(), one * (256 * 257 / 2));
                TileRenderer s = new TileRenderer();
                s.clear(way[0], way[1], way[2]);
                everyPixel(s, way[0], way[1], way[2], seed);
            }
        }
    }

    /** One pixel is drawn at a time, so that each question is seen to tell of just that pixel. */
    private static void questionsAboutPixels() {
        int[][] pixels = {{0, 0}, {15, 0}, {0, 15}, {15, 15}, {3, 12}, {12, 3}};
        for (int[] xy : pixels) {
            TileRenderer r = Scene.squared(33, 0xABCDEF);
            r.window(Scene.box(xy[0], xy[0], xy[1], xy[1]));
            r.rule(4, 1);
            r.rule(5, 6);
            Scene.drawSquare(r);
            for (int k = 0; k < 16; k++) {
                boolean row = k == xy[0];
                Check.same("colour in the row", r.colour(k, xy[1]), row ? 0xABCDEF : 0);
                Check.same("depth in the row", r.depth(k, xy[1]), row ? 33 : 255);
                Check.same("mark in the row", r.mark(k, xy[1]), row ? 6 : 0);
                boolean column = k == xy[1];
                Check.same("colour in the column", r.colour(xy[0], k), column ? 0xABCDEF : 0);
                Check.same("depth in the column", r.depth(xy[0], k), column ? 33 : 255);
                Check.same("mark in the column", r.mark(xy[0], k), column ? 6 : 0);
            }
            int weight = 16 * xy[1] + xy[0] + 1;
            int due = 765 * (256 * 257 / 2) + weight * (0xABCDEF + 3 * 33 + 7 * 6 - 765);
            Check.same("digest with one pixel", r.digest(), due);
        }
    }

    private static void digest() {
        TileRenderer r = new TileRenderer();
        r.clear(0, 0, 0);
        Check.same("digest of nothing", r.digest(), 0);
        r.clear(1, 0, 0);
        Check.same("digest of colours", r.digest(), 32896);
        r.clear(0, 1, 0);
        Check.same("digest of depths", r.digest(), 3 * 32896);
        r.clear(0, 0, 1);
        Check.same("digest of marks", r.digest(), 7 * 32896);
    }

    private static void hits() {
        TileRenderer r = Scene.squared(9, 1);
        r.draw(Scene.UPPER);
        Check.same("hits of one half", r.hits(), 120);
        r.draw(Scene.UPPER);
        Check.same("hits where the depth test fails", r.hits(), 120);
        r.draw(Scene.LOWER);
        Check.same("hits of both halves", r.hits(), 256);
        r.rule(0, 1);
        r.rule(2, 4);
        r.rule(1, 0);
        Scene.drawSquare(r);
        Check.same("hits that change nothing else", r.hits(), 512);
        r.clear(0, 255, 0);
        Check.same("hits after clear", r.hits(), 512);
        r.reset();
        Check.same("hits after reset", r.hits(), 512);
    }

    private static void objectsAreApart() {
        State.unchanged("the use of another object", r -> Scene.busy().clear(1, 1, 1));
        Check.same("hits of a new object after others", new TileRenderer().hits(), 0);
    }
}
