/** Promises 8 and 16 in ordinary use: what a triangle covers, and how it is drawn. */
public final class DrawTest {
    public static void main(String[] args) {
        halves();
        edgesThroughMiddles();
        fanHitsEachPixelOnce();
        seenFromBehind();
        numbersAtPixels();
        numbersFromBehind();
        cornersAtTheTimeOfDrawing();
        depthsWritten();
        mixings();
        pattern();
        patternWithMixings();
        Check.end();
    }

    private static void halves() {
        TileRenderer upper = Scene.squared(5, 0x0A0B0C);
        TileRenderer lower = Scene.squared(5, 0x0A0B0C);
        Check.same("draw", upper.draw(Scene.UPPER), 0);
        Check.same("draw", lower.draw(Scene.LOWER), 0);
        Check.same("covered", upper.covered(Scene.UPPER), 120);
        Check.same("covered", upper.covered(Scene.LOWER), 136);
        for (int y = 0; y < 16; y++) {
            for (int x = 0; x < 16; x++) {
                boolean above = x + y <= 14;
                Check.same("upper half " + x + " " + y, upper.colour(x, y), above ? 0x0A0B0C : 0);
                Check.same("lower half " + x + " " + y, lower.colour(x, y), above ? 0 : 0x0A0B0C);
            }
        }
    }

    private static TileRenderer triangle(int ax, int ay, int bx, int by, int cx, int cy) {
        TileRenderer r = new TileRenderer();
        r.corner(0, Scene.place(ax, ay), 5, 1);
        r.corner(1, Scene.place(bx, by), 5, 1);
        r.corner(2, Scene.place(cx, cy), 5, 1);
        return r;
    }

    /** Draws one triangle in all six orders of its corners; each must hit just the pixels told. */
    private static void hitsJust(String what, int[] places, int... pixels) {
        int[][] orders = {{0, 1, 2}, {1, 2, 0}, {2, 0, 1}, {0, 2, 1}, {2, 1, 0}, {1, 0, 2}};
        for (int[] o : orders) {
            TileRenderer r = triangle(places[0], places[1], places[2], places[3], places[4], places[5]);
            int code = Scene.triangle(o[0], o[1], o[2]);
            Check.same(what + " covered", r.covered(code), pixels.length);
            r.draw(code);
            Check.same(what + " hits", r.hits(), pixels.length);
            for (int pixel : pixels) {
                Check.same(what + " pixel " + pixel, r.colour(pixel % 16, pixel / 16), 1);
            }
        }
    }

    private static void edgesThroughMiddles() {
        hitsJust("corner at the upper left", new int[] {8, 8, 40, 8, 8, 40}, 0, 1, 16);
        hitsJust("corner at the upper right", new int[] {8, 8, 40, 8, 40, 40}, 0, 1, 17);
        hitsJust("corner at the lower left", new int[] {8, 8, 8, 40, 40, 40}, 16);
        hitsJust("corner at the lower right", new int[] {40, 8, 40, 40, 8, 40}, 17);
        hitsJust("an upper edge further down", new int[] {8, 200, 40, 200, 8, 232}, 192, 193, 208);
        hitsJust("a lower edge further right", new int[] {200, 8, 200, 40, 232, 40}, 28);
        hitsJust("the least area, at a middle", new int[] {8, 8, 9, 8, 8, 9}, 0);
        hitsJust("the least area, ending at a middle", new int[] {8, 8, 7, 8, 8, 7});
        hitsJust("one middle inside", new int[] {7, 7, 11, 7, 7, 11}, 0);
        hitsJust("no middle inside", new int[] {9, 9, 23, 9, 9, 23});
        hitsJust("outside of the picture", new int[] {-64, -64, -1, -64, -64, -1});
        hitsJust("beyond the picture", new int[] {257, 257, 319, 257, 257, 319});
        hitsJust("the last pixel", new int[] {240, 240, 319, 240, 240, 319}, 255);
    }

    /** Triangles around a shared place: an edge's pixels belong to one of its two triangles. */
    private static void fanHitsEachPixelOnce() {
        int[][] middles = {{128, 128}, {8, 8}, {120, 136}, {248, 8}, {100, 37}, {248, 248}, {8, 120}};
        for (int[] xy : middles) {
            TileRenderer r = Scene.squared(5, 1);
            r.corner(4, Scene.place(xy[0], xy[1]), 5, 1);
            r.rule(0, 1);
            r.rule(4, 2);
            r.draw(Scene.triangle(4, 0, 1));
            r.draw(Scene.triangle(1, 4, 3));
            r.draw(Scene.triangle(3, 2, 4));
            r.draw(Scene.triangle(4, 0, 2));
            Check.same("hits of a fan", r.hits(), 256);
            for (int pixel = 0; pixel < 256; pixel++) {
                Check.same("mark in a fan", r.mark(pixel % 16, pixel / 16), 1);
            }
        }
    }

    private static void seenFromBehind() {
        TileRenderer r = Scene.squared(5, 1);
        int behind = Scene.triangle(0, 2, 1);
        Check.same("covered from behind", r.covered(behind), 120);
        r.draw(behind);
        Check.same("hits from behind", r.hits(), 120);
        r.rule(6, 1);
        r.rule(0, 1);
        Check.same("covered if left out", r.covered(behind), 0);
        Check.same("draw if left out", r.draw(behind), 0);
        Check.same("hits if left out", r.hits(), 120);
        Check.same("covered from the front", r.covered(Scene.UPPER), 120);
        r.draw(Scene.UPPER);
        Check.same("hits from the front", r.hits(), 240);
        r.rule(6, 0);
        Check.same("covered from behind again", r.covered(behind), 120);
    }

    private static TileRenderer slope() {
        TileRenderer r = new TileRenderer();
        r.corner(0, Scene.place(0, 0), 10, 0xC80A00);
        r.corner(1, Scene.place(256, 0), 250, 0x00FF07);
        r.corner(2, Scene.place(0, 256), 100, 0x3200FF);
        return r;
    }

    private static void slopeIsDrawn(String what, TileRenderer r) {
        for (int y = 0; y < 15; y++) {
            for (int x = 0; x + y < 15; x++) {
                int red = Scene.sloped(x, y, 0xC8, 0, 0x32);
                int green = Scene.sloped(x, y, 0x0A, 0xFF, 0);
                int blue = Scene.sloped(x, y, 0, 7, 0xFF);
                Check.same(what + " colour", r.colour(x, y), 65536 * red + 256 * green + blue);
                Check.same(what + " depth", r.depth(x, y), Scene.sloped(x, y, 10, 250, 100));
            }
        }
    }

    private static void numbersAtPixels() {
        int[][] orders = {{0, 1, 2}, {1, 2, 0}, {2, 0, 1}};
        for (int[] o : orders) {
            TileRenderer r = slope();
            r.draw(Scene.triangle(o[0], o[1], o[2]));
            slopeIsDrawn("from the front", r);
        }
        TileRenderer r = slope();
        r.draw(Scene.UPPER);
        Check.same("a depth by hand", r.depth(4, 0), 80);
        Check.same("a colour by hand", r.colour(0, 0), (189 << 16) + (17 << 8) + 8);
    }

    private static void numbersFromBehind() {
        int[][] orders = {{0, 2, 1}, {2, 1, 0}, {1, 0, 2}};
        for (int[] o : orders) {
            TileRenderer r = slope();
            r.draw(Scene.triangle(o[0], o[1], o[2]));
            slopeIsDrawn("from behind", r);
        }
    }

    private static void cornersAtTheTimeOfDrawing() {
        TileRenderer r = slope();
        r.draw(Scene.UPPER);
        int digest = r.digest();
        r.corner(0, Scene.place(200, 200), 1, 77);
        r.corner(1, Scene.place(20, 200), 1, 77);
        Check.same("digest after corners changed", r.digest(), digest);
        slopeIsDrawn("after corners changed", r);
    }

    private static void depthsWritten() {
        TileRenderer r = Scene.squared(40, 0x111111);
        r.rule(1, 0);
        Scene.drawSquare(r);
        Check.same("depth that is not written", r.depth(6, 6), 255);
        Check.same("colour without its depth", r.colour(6, 6), 0x111111);
        r.rule(1, 1);
        Scene.drawSquare(r);
        Check.same("depth that is written", r.depth(6, 6), 40);
        Scene.square(r, 90, 0x222222);
        r.rule(0, 1);
        Scene.drawSquare(r);
        Check.same("a greater depth that is written", r.depth(6, 6), 90);
    }

    private static int mixed(int mixing, int s, int t) {
        switch (mixing) {
            case 0: return s;
            case 1: return Math.min(255, s + t);
            case 2: return (s + t) / 2;
            case 3: return s * t / 255;
            default: return t;
        }
    }

    private static void mixings() {
        int[][] pairs = {{0, 0, 0}, {255, 255, 255}, {255, 0, 1}, {0, 255, 254}, {1, 254, 255}, {200, 100, 56},
            {127, 128, 129}, {3, 4, 90}, {13, 200, 31}};
        for (int mixing = 0; mixing < 5; mixing++) {
            for (int[] s : pairs) {
                for (int[] t : pairs) {
                    TileRenderer r = Scene.squared(5, 65536 * s[0] + 256 * s[1] + s[2]);
                    r.clear(65536 * t[2] + 256 * t[0] + t[1], 255, 0);
                    r.rule(2, mixing);
                    r.draw(Scene.UPPER);
                    int due = 65536 * mixed(mixing, s[0], t[2]) + 256 * mixed(mixing, s[1], t[0])
                        + mixed(mixing, s[2], t[1]);
                    Check.same("mixing " + mixing, r.colour(2, 9), due);
                    Check.same("depth with mixing " + mixing, r.depth(2, 9), 5);
                    Check.same("hits with mixing " + mixing, r.hits(), 120);
                }
            }
        }
    }

    private static void pattern() {
        int[] parts = {0, 1, 127, 128, 254, 255};
        for (int s : parts) {
            for (int p : parts) {
                TileRenderer r = Scene.squared(5, 65536 * s + 256 * p + 255);
                r.cell(0, 0, 65536 * p + 256 * 200 + s);
                r.rule(7, 1);
                r.draw(Scene.UPPER);
                int due = 65536 * (s * p / 255) + 256 * (p * 200 / 255) + s;
                Check.same("colour by a pattern", r.colour(4, 4), due);
                r.rule(7, 0);
                r.rule(0, 1);
                r.draw(Scene.UPPER);
                Check.same("colour without a pattern", r.colour(4, 4), 65536 * s + 256 * p + 255);
            }
        }
        TileRenderer r = Scene.squared(5, Scene.WHITE);
        r.cell(7, 0, 0x00BEEF);
        for (int k = 0; k < 4; k++) {
            r.aim(k, 112, 15);
        }
        r.rule(7, 1);
        r.draw(Scene.UPPER);
        Check.same("the cell (7, 0)", r.colour(4, 4), 0x00BEEF);
    }

    private static void patternWithMixings() {
        for (int mixing = 0; mixing < 5; mixing++) {
            TileRenderer r = Scene.squared(5, 0xF0A050);
            r.clear(0x306090, 255, 0);
            r.cell(0, 0, 0x80C0E0);
            r.rule(2, mixing);
            r.rule(7, 1);
            r.draw(Scene.UPPER);
            int due = 65536 * mixed(mixing, 0xF0 * 0x80 / 255, 0x30) + 256 * mixed(mixing, 0xA0 * 0xC0 / 255, 0x60)
                + mixed(mixing, 0x50 * 0xE0 / 255, 0x90);
            Check.same("pattern with mixing " + mixing, r.colour(4, 4), due);
        }
    }
}
