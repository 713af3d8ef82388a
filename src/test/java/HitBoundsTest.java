/**
 * One test for each sentence of the document's 'Terms' that names a boundary case of what happens to
 * a covered pixel: its numbers, the two tests, the mark, the depth, the mixings and the pattern.
 */
public final class HitBoundsTest {
    private static final String TERMS = "Terms";

    public static void main(String[] args) {
        Check.sentence(TERMS, "(a * pA + b * pB + c * pC) / area (whole quotient; nothing here is below 0)",
            HitBoundsTest::wholeQuotients);
        Check.sentence(TERMS, "Its WEIGHTS are a = SIDE(B, C, M), b = SIDE(C, A, M), c = SIDE(A, B, M)",
            HitBoundsTest::weights);
        Check.sentence(TERMS, "MARK TEST: 0 passes", HitBoundsTest::markTest0);
        Check.sentence(TERMS, "1 passes if the pixel's mark is the sign", HitBoundsTest::markTest1);
        Check.sentence(TERMS, "2 passes if it is not", HitBoundsTest::markTest2);
        Check.sentence(TERMS, "DEPTH TEST: 0 never passes", HitBoundsTest::depthTest0);
        Check.sentence(TERMS, "1 passes", HitBoundsTest::depthTest1);
        Check.sentence(TERMS, "2 passes if d is less than the pixel's depth", HitBoundsTest::depthTest2);
        Check.sentence(TERMS, "3 if it is not greater", HitBoundsTest::depthTest3);
        Check.sentence(TERMS, "If both pass, the pixel is HIT", HitBoundsTest::bothPass);
        Check.sentence(TERMS, "its mark is changed: 0 not", HitBoundsTest::markChange0);
        Check.sentence(TERMS, "1 to the sign", HitBoundsTest::markChange1);
        Check.sentence(TERMS, "2 to itself + 1 (15 to 0)", HitBoundsTest::markChange2);
        Check.sentence(TERMS, "3 to itself xor the sign", HitBoundsTest::markChange3);
        Check.sentence(TERMS, "its depth becomes d, if depths are written", HitBoundsTest::depthsWritten);
        Check.sentence(TERMS, "mixing 0: s", HitBoundsTest::mixing0);
        Check.sentence(TERMS, "1: s + t, but at most 255", HitBoundsTest::mixing1);
        Check.sentence(TERMS, "2: (s + t) / 2 (whole quotient)", HitBoundsTest::mixing2);
        Check.sentence(TERMS, "3: s * t / 255 (whole quotient)", HitBoundsTest::mixing3);
        Check.sentence(TERMS, "4: t (unchanged)", HitBoundsTest::mixing4);
        Check.sentence(TERMS, "If the pattern is used", HitBoundsTest::patternUsed);
        Check.sentence(TERMS, "s is first changed", HitBoundsTest::patternBeforeMixing);
        Check.sentence(TERMS, "to s * p / 255 (whole quotient)", HitBoundsTest::patternQuotients);
        Check.sentence(TERMS, "the pattern's cell (U / 16, V / 16) (whole quotients", HitBoundsTest::cellsOfAims);
        Check.sentence(TERMS, "of U and V at the pixel)", HitBoundsTest::cellsOfPixels);
        Check.end();
    }

    /** The number that pixel (0, 0) has if the corners (0, 0), (256, 0), (0, 256) have these. */
    private static void firstPixel(int pA, int pB, int pC, int due) {
        TileRenderer r = new TileRenderer();
        int grey = 0x010101;
        r.corner(0, Scene.place(0, 0), pA, grey * pA);
        r.corner(1, Scene.place(256, 0), pB, grey * pB);
        r.corner(2, Scene.place(0, 256), pC, grey * pC);
        r.rule(0, 1);
        r.draw(Scene.UPPER);
        String what = " with " + pA + ", " + pB + ", " + pC;
        Check.same("depth" + what, r.depth(0, 0), due);
        Check.same("colour" + what, r.colour(0, 0), grey * due);
    }

    /** At its middle (8, 8) the weights are 240, 8 and 8 parts of 256. */
    private static void wholeQuotients() {
        firstPixel(0, 0, 0, 0);
        firstPixel(1, 0, 0, 0);
        firstPixel(1, 1, 0, 0);
        firstPixel(1, 1, 1, 1);
        firstPixel(16, 0, 0, 15);
        firstPixel(15, 0, 0, 14);
        firstPixel(17, 0, 0, 15);
        firstPixel(0, 31, 0, 0);
        firstPixel(0, 32, 0, 1);
        firstPixel(0, 15, 16, 0);
        firstPixel(0, 16, 16, 1);
        firstPixel(255, 0, 0, 239);
        firstPixel(255, 255, 254, 254);
        firstPixel(254, 255, 255, 254);
        firstPixel(255, 255, 255, 255);
        greatestNumbers();
        leastArea();
    }

    /** The greatest weights there are, with the greatest numbers. */
    private static void greatestNumbers() {
        TileRenderer r = new TileRenderer();
        r.corner(0, Scene.place(-64, -64), 255, Scene.WHITE);
        r.corner(1, Scene.place(319, -64), 255, Scene.WHITE);
        r.corner(2, Scene.place(319, 319), 255, Scene.WHITE);
        for (int k = 0; k < 3; k++) {
            r.aim(k, 127, 127);
        }
        r.cell(7, 7, 0xFEDCBA);
        r.clear(0, 0, 0);
        r.rule(0, 1);
        r.rule(7, 1);
        r.draw(Scene.triangle(0, 1, 2));
        for (int k = 0; k < 16; k++) {
            Check.same("the greatest depth", r.depth(k, 0), 255);
            Check.same("the greatest colour", r.colour(15, k), 0xFEDCBA);
        }
    }

    /** Right at a corner the weights of the others are 0, and on an edge that of the corner across is. */
    private static void weights() {
        int[][] orders = {{0, 1, 2}, {1, 2, 0}, {2, 0, 1}, {0, 2, 1}, {2, 1, 0}, {1, 0, 2}};
        for (int[] o : orders) {
            TileRenderer r = new TileRenderer();
            r.corner(0, Scene.place(8, 8), 100, 0x00FF00);
            r.corner(1, Scene.place(264, 8), 0, 0x0000FF);
            r.corner(2, Scene.place(8, 264), 255, 0xFF0000);
            r.draw(Scene.triangle(o[0], o[1], o[2]));
            Check.same("depth at a corner", r.depth(0, 0), 100);
            Check.same("colour at a corner", r.colour(0, 0), 0x00FF00);
            for (int k = 1; k < 16; k++) {
                int green = (16 - k) * 255 / 16;
                int other = k * 255 / 16;
                Check.same("depth on the upper edge", r.depth(k, 0), (16 - k) * 100 / 16);
                Check.same("colour on the upper edge", r.colour(k, 0), 256 * green + other);
                Check.same("depth on the left edge", r.depth(0, k), ((16 - k) * 100 + k * 255) / 16);
                Check.same("colour on the left edge", r.colour(0, k), 65536 * other + 256 * green);
            }
        }
    }

    /** The least area is 1; the middle lies at one of its corners. */
    private static void leastArea() {
        for (int k = 0; k < 3; k++) {
            TileRenderer r = new TileRenderer();
            r.corner(k, Scene.place(8, 8), 200, 0xC0FFEE);
            r.corner((k + 1) % 3, Scene.place(9, 8), 1, 1);
            r.corner((k + 2) % 3, Scene.place(8, 9), 1, 1);
            r.draw(Scene.triangle(0, 1, 2));
            Check.same("hits of the least area", r.hits(), 1);
            Check.same("depth of the least area", r.depth(0, 0), 200);
            Check.same("colour of the least area", r.colour(0, 0), 0xC0FFEE);
        }
    }

    /** Whether the whole picture is hit, with one depth and mark all over it. */
    private static boolean isHit(int markTest, int sign, int mark, int depthTest, int d, int depth) {
        TileRenderer r = Scene.squared(d, 0x123456);
        r.clear(0x654321, depth, mark);
        int before = r.digest();
        r.rule(0, depthTest);
        r.rule(3, markTest);
        r.rule(4, 2);
        r.rule(5, sign);
        Scene.drawSquare(r);
        boolean hit = r.hits() == 256;
        Check.isTrue("all pixels are hit or none", hit || r.hits() == 0);
        Check.same("colour", r.colour(5, 5), hit ? 0x123456 : 0x654321);
        Check.same("depth", r.depth(5, 5), hit ? d : depth);
        Check.same("mark", r.mark(5, 5), hit ? (mark + 1) % 16 : mark);
        Check.isTrue("a pixel that is not hit stays", hit || r.digest() == before);
        return hit;
    }

    private static void markTest0() {
        for (int mark = 0; mark < 16; mark++) {
            for (int sign = 0; sign < 16; sign++) {
                Check.isTrue("mark test 0 of " + mark + " by " + sign, isHit(0, sign, mark, 1, 9, 9));
            }
        }
    }

    private static void markTest1() {
        for (int mark = 0; mark < 16; mark++) {
            for (int sign = 0; sign < 16; sign++) {
                Check.isTrue("mark test 1 of " + mark + " by " + sign, isHit(1, sign, mark, 1, 9, 9) == (mark == sign));
            }
        }
    }

    private static void markTest2() {
        for (int mark = 0; mark < 16; mark++) {
            for (int sign = 0; sign < 16; sign++) {
                Check.isTrue("mark test 2 of " + mark + " by " + sign, isHit(2, sign, mark, 1, 9, 9) == (mark != sign));
            }
        }
    }

    /** Triangle's depths d and pixels' depths: less by one, equal, greater by one, and the ends. */
    private static final int[][] DEPTHS = {{99, 100}, {100, 100}, {101, 100}, {0, 0}, {0, 1}, {1, 0}, {254, 255},
        {255, 255}, {255, 254}, {0, 255}, {255, 0}, {127, 128}, {128, 128}, {128, 127}};

    private static void depthTest0() {
        for (int[] d : DEPTHS) {
            Check.isTrue("depth test 0 of " + d[0] + " over " + d[1], !isHit(0, 0, 0, 0, d[0], d[1]));
        }
    }

    private static void depthTest1() {
        for (int[] d : DEPTHS) {
            Check.isTrue("depth test 1 of " + d[0] + " over " + d[1], isHit(0, 0, 0, 1, d[0], d[1]));
        }
    }

    private static void depthTest2() {
        for (int[] d : DEPTHS) {
            Check.isTrue("depth test 2 of " + d[0] + " over " + d[1], isHit(0, 0, 0, 2, d[0], d[1]) == d[0] < d[1]);
        }
    }

    private static void depthTest3() {
        for (int[] d : DEPTHS) {
            Check.isTrue("depth test 3 of " + d[0] + " over " + d[1], isHit(0, 0, 0, 3, d[0], d[1]) == d[0] <= d[1]);
        }
    }

    private static void bothPass() {
        Check.isTrue("both pass", isHit(1, 6, 6, 2, 49, 50));
        Check.isTrue("the mark test fails", !isHit(1, 6, 7, 2, 49, 50));
        Check.isTrue("the depth test fails", !isHit(1, 6, 6, 2, 50, 50));
        Check.isTrue("both fail", !isHit(1, 6, 7, 2, 50, 50));
    }

    private static void changesMark(int change, int sign, int mark, int due) {
        TileRenderer r = Scene.squared(5, 1);
        r.clear(0, 255, mark);
        r.rule(4, change);
        r.rule(5, sign);
        r.draw(Scene.UPPER);
        String what = "mark change " + change + " of " + mark + " by " + sign;
        Check.same(what, r.mark(0, 0), due);
        Check.same(what + " at the last pixel", r.mark(14, 0), due);
        Check.same(what + " where nothing is hit", r.mark(15, 0), mark);
    }

    private static void markChange0() {
        for (int mark = 0; mark < 16; mark++) {
            changesMark(0, 15 - mark, mark, mark);
        }
    }

    private static void markChange1() {
        for (int sign = 0; sign < 16; sign++) {
            changesMark(1, sign, 0, sign);
            changesMark(1, sign, 15, sign);
        }
    }

    private static void markChange2() {
        for (int mark = 0; mark < 15; mark++) {
            changesMark(2, 0, mark, mark + 1);
        }
        changesMark(2, 0, 15, 0);
        changesMark(2, 15, 15, 0);
        TileRenderer r = Scene.squared(5, 1);
        r.rule(0, 1);
        r.rule(4, 2);
        for (int n = 1; n <= 33; n++) {
            r.draw(Scene.UPPER);
            Check.same("mark after " + n + " hits", r.mark(3, 3), n % 16);
        }
    }

    private static void markChange3() {
        int[][] ways = {{0, 0, 0}, {0, 15, 15}, {15, 0, 15}, {15, 15, 0}, {8, 8, 0}, {5, 10, 15}, {12, 10, 6}, {1, 14, 15}};
        for (int[] way : ways) {
            changesMark(3, way[0], way[1], way[2]);
        }
    }

    private static void depthsWritten() {
        for (int[] d : DEPTHS) {
            for (int written = 0; written < 2; written++) {
                TileRenderer r = Scene.squared(d[0], 0x777777);
                r.clear(0, d[1], 0);
                r.rule(0, 1);
                r.rule(1, written);
                Scene.drawSquare(r);
                Check.same("hits", r.hits(), 256);
                Check.same("depth " + d[0] + " over " + d[1], r.depth(9, 9), d[written == 1 ? 0 : 1]);
                Check.same("colour", r.colour(9, 9), 0x777777);
            }
        }
    }

    /** One part of the colour is mixed beside two that are 0, which a carry would touch; then all are. */
    private static void mixes(int mixing, int s, int t, int due) {
        int[] shifts = {0, 8, 16};
        for (int shift : shifts) {
            TileRenderer r = Scene.squared(5, s << shift);
            r.clear(t << shift, 255, 0);
            r.rule(2, mixing);
            r.draw(Scene.UPPER);
            String what = "mixing " + mixing + " of " + s + " and " + t;
            Check.same(what + " by " + shift, r.colour(4, 4), due << shift);
            Check.same(what + " where nothing is hit", r.colour(15, 15), t << shift);
        }
        TileRenderer r = Scene.squared(5, 0x010101 * s);
        r.clear(0x010101 * t, 255, 0);
        r.rule(2, mixing);
        r.draw(Scene.UPPER);
        Check.same("mixing " + mixing + " of all parts, " + s + " and " + t, r.colour(4, 4), 0x010101 * due);
    }

    private static void mixing0() {
        mixes(0, 0, 255, 0);
        mixes(0, 255, 0, 255);
        mixes(0, 255, 255, 255);
        mixes(0, 1, 254, 1);
    }

    private static void mixing1() {
        mixes(1, 0, 0, 0);
        mixes(1, 0, 255, 255);
        mixes(1, 255, 0, 255);
        mixes(1, 127, 127, 254);
        mixes(1, 1, 253, 254);
        mixes(1, 127, 128, 255);
        mixes(1, 1, 254, 255);
        mixes(1, 128, 128, 255);
        mixes(1, 1, 255, 255);
        mixes(1, 255, 1, 255);
        mixes(1, 255, 255, 255);
    }

    private static void mixing2() {
        mixes(2, 0, 0, 0);
        mixes(2, 0, 1, 0);
        mixes(2, 1, 0, 0);
        mixes(2, 1, 1, 1);
        mixes(2, 1, 2, 1);
        mixes(2, 0, 255, 127);
        mixes(2, 255, 0, 127);
        mixes(2, 254, 255, 254);
        mixes(2, 255, 255, 255);
    }

    private static void mixing3() {
        mixes(3, 0, 0, 0);
        mixes(3, 0, 255, 0);
        mixes(3, 255, 0, 0);
        mixes(3, 255, 255, 255);
        mixes(3, 254, 255, 254);
        mixes(3, 255, 254, 254);
        mixes(3, 1, 254, 0);
        mixes(3, 1, 255, 1);
        mixes(3, 15, 16, 0);
        mixes(3, 15, 17, 1);
        mixes(3, 254, 254, 253);
    }

    private static void mixing4() {
        mixes(4, 0, 255, 255);
        mixes(4, 255, 0, 0);
        mixes(4, 255, 255, 255);
        mixes(4, 1, 254, 254);
        TileRenderer r = Scene.squared(5, Scene.WHITE);
        r.rule(2, 4);
        r.rule(4, 2);
        Scene.drawSquare(r);
        Check.same("hits where the colour stays", r.hits(), 256);
        Check.same("depth where the colour stays", r.depth(4, 4), 5);
        Check.same("mark where the colour stays", r.mark(4, 4), 1);
    }

    /** All corners have U and V 0, so the cell (0, 0) stands for all. */
    private static int withCell(int used, int mixing, int s, int p, int t) {
        TileRenderer r = Scene.squared(5, 0x010101 * s);
        r.cell(0, 0, 0x010101 * p);
        r.clear(0x010101 * t, 255, 0);
        r.rule(2, mixing);
        r.rule(7, used);
        r.draw(Scene.UPPER);
        int colour = r.colour(4, 4);
        Check.same("its three parts are alike", colour, 0x010101 * (colour & 255));
        return colour & 255;
    }

    private static void patternUsed() {
        Check.same("used, with a black cell", withCell(1, 0, 255, 0, 90), 0);
        Check.same("not used, with a black cell", withCell(0, 0, 255, 0, 90), 255);
        Check.same("used, with a white cell", withCell(1, 0, 77, 255, 90), 77);
        Check.same("not used, with a white cell", withCell(0, 0, 77, 255, 90), 77);
    }

    private static void patternBeforeMixing() {
        // 200 * 100 / 255 is 78.
        Check.same("pattern, then mixing 0", withCell(1, 0, 200, 100, 210), 78);
        Check.same("pattern, then mixing 1", withCell(1, 1, 200, 100, 176), 254);
        Check.same("pattern, then mixing 1 at most", withCell(1, 1, 200, 100, 178), 255);
        Check.same("pattern, then mixing 2", withCell(1, 2, 200, 100, 210), 144);
        Check.same("pattern, then mixing 3", withCell(1, 3, 200, 100, 210), 64);
        Check.same("pattern, then mixing 4", withCell(1, 4, 200, 100, 210), 210);
    }

    private static void patternQuotients() {
        int[][] ways = {{0, 0, 0}, {0, 255, 0}, {255, 0, 0}, {255, 255, 255}, {254, 255, 254}, {255, 254, 254},
            {1, 254, 0}, {1, 255, 1}, {255, 1, 1}, {254, 1, 0}, {15, 16, 0}, {15, 17, 1}, {254, 254, 253}};
        for (int[] way : ways) {
            Check.same(way[0] + " by the pattern's " + way[1], withCell(1, 0, way[0], way[1], 9), way[2]);
        }
    }

    /** The first and the last U and V of each cell. */
    private static void cellsOfAims() {
        for (int u = 0; u < 8; u++) {
            for (int v = 0; v < 8; v++) {
                cellOfAim(16 * u, 16 * v, u, v);
                cellOfAim(16 * u + 15, 16 * v, u, v);
                cellOfAim(16 * u, 16 * v + 15, u, v);
                cellOfAim(16 * u + 15, 16 * v + 15, u, v);
            }
        }
    }

    private static void cellOfAim(int aimU, int aimV, int u, int v) {
        TileRenderer r = Scene.squared(5, Scene.WHITE);
        r.cell(u, v, 0xFEDCBA);
        for (int k = 0; k < 4; k++) {
            r.aim(k, aimU, aimV);
        }
        r.rule(7, 1);
        r.draw(Scene.UPPER);
        Check.same("the cell of " + aimU + ", " + aimV, r.colour(6, 6), 0xFEDCBA);
    }

    /** U grows from 0 to 127 with x, and V falls from 127 to 0 with y; each pixel has its own cell. */
    private static void cellsOfPixels() {
        TileRenderer r = Scene.squared(5, Scene.WHITE);
        for (int k = 0; k < 64; k++) {
            r.cell(k % 8, k / 8, 1000 + k);
        }
        r.aim(0, 0, 127);
        r.aim(1, 127, 127);
        r.aim(3, 127, 0);
        r.rule(7, 1);
        r.draw(Scene.UPPER);
        for (int y = 0; y < 15; y++) {
            for (int x = 0; x + y < 15; x++) {
                int u = Scene.sloped(x, y, 0, 127, 0);
                int v = Scene.sloped(x, y, 127, 127, 0);
                Check.same("the cell at " + x + ", " + y, r.colour(x, y), 1000 + v / 16 * 8 + u / 16);
            }
        }
    }
}
