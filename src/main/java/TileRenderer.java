public final class TileRenderer {
    public static final int BAD = -1;

    private static final int CORNERS = 6;
    private static final int TRIANGLES = 216;
    private static final int SIZE = 16;
    private static final int PIXELS = 256;
    private static final int PATTERN_SIZE = 8;
    private static final int CELLS = 64;
    private static final int PLACES_A_ROW = 384;
    private static final int FIRST_PLACE = -64;
    private static final int LAST_PLACE_CODE = 147455;
    private static final int LAST_AIM = 127;
    private static final int LAST_BOX = 65535;
    private static final int LAST_MARK = 15;
    private static final int FULL = 255;
    private static final int WHITE = 16777215;

    private static final int DEPTH_TEST = 0;
    private static final int DEPTHS_WRITTEN = 1;
    private static final int MIXING = 2;
    private static final int MARK_TEST = 3;
    private static final int MARK_CHANGE = 4;
    private static final int SIGN = 5;
    private static final int BEHIND_LEFT_OUT = 6;
    private static final int PATTERN_USED = 7;
    private static final int RULES = 8;

    private final int[] pixelColours = new int[PIXELS];
    private final int[] pixelDepths = new int[PIXELS];
    private final int[] pixelMarks = new int[PIXELS];

    private final int[] cellColours = new int[CELLS];

    private final int[] cornerX = new int[CORNERS];
    private final int[] cornerY = new int[CORNERS];
    private final int[] cornerDepth = new int[CORNERS];
    private final int[] cornerRed = new int[CORNERS];
    private final int[] cornerGreen = new int[CORNERS];
    private final int[] cornerBlue = new int[CORNERS];
    private final int[] cornerU = new int[CORNERS];
    private final int[] cornerV = new int[CORNERS];

    private final int[] rules = new int[RULES];
    private int left;
    private int right;
    private int top;
    private int bottom;

    private int hitCount;

    public TileRenderer() {
        fillPicture(0, FULL, 0);
        startSettings();
    }

    public int corner(int corner, int place, int depth, int colour) {
        if (!isWithin(corner, CORNERS - 1) || !isWithin(place, LAST_PLACE_CODE)) {
            return BAD;
        }
        if (!isWithin(depth, FULL) || !isWithin(colour, WHITE)) {
            return BAD;
        }
        cornerX[corner] = place % PLACES_A_ROW + FIRST_PLACE;
        cornerY[corner] = place / PLACES_A_ROW + FIRST_PLACE;
        cornerDepth[corner] = depth;
        cornerRed[corner] = part(colour, 16);
        cornerGreen[corner] = part(colour, 8);
        cornerBlue[corner] = part(colour, 0);
        return 0;
    }

    public int aim(int corner, int u, int v) {
        if (!isWithin(corner, CORNERS - 1) || !isWithin(u, LAST_AIM) || !isWithin(v, LAST_AIM)) {
            return BAD;
        }
        cornerU[corner] = u;
        cornerV[corner] = v;
        return 0;
    }

    public int cell(int u, int v, int colour) {
        if (!isWithin(u, PATTERN_SIZE - 1) || !isWithin(v, PATTERN_SIZE - 1) || !isWithin(colour, WHITE)) {
            return BAD;
        }
        int cell = PATTERN_SIZE * v + u;
        int before = cellColours[cell];
        cellColours[cell] = colour;
        return before;
    }

    public int grab(int x, int y) {
        if (!isWithin(x, SIZE - PATTERN_SIZE) || !isWithin(y, SIZE - PATTERN_SIZE)) {
            return BAD;
        }
        for (int v = 0; v < PATTERN_SIZE; v++) {
            for (int u = 0; u < PATTERN_SIZE; u++) {
                cellColours[PATTERN_SIZE * v + u] = pixelColours[SIZE * (y + v) + x + u];
            }
        }
        return 0;
    }

    public int window(int box) {
        if (!isWithin(box, LAST_BOX)) {
            return BAD;
        }
        left = box / 4096;
        right = box / 256 % 16;
        top = box / 16 % 16;
        bottom = box % 16;
        return 0;
    }

    public int rule(int what, int value) {
        if (!isWithin(what, RULES - 1)) {
            return BAD;
        }
        int greatest = greatestValue(what);
        if (!isWithin(value, greatest)) {
            return BAD;
        }
        int before = rules[what];
        rules[what] = value;
        return before;
    }

    public int draw(int corners) {
        if (!isWithin(corners, TRIANGLES - 1)) {
            return BAD;
        }
        int a = corners / 36;
        int b = corners / 6 % 6;
        int c = corners % 6;
        int area = areaOf(a, b, c);
        if (isNotDrawn(area)) {
            return 0;
        }
        // Seen from behind, B and C change places, so that the area is above 0.
        if (area > 0) {
            drawFromFront(a, b, c);
        } else {
            drawFromFront(a, c, b);
        }
        return 0;
    }

    public int clear(int colour, int depth, int mark) {
        if (!isWithin(colour, WHITE) || !isWithin(depth, FULL) || !isWithin(mark, LAST_MARK)) {
            return BAD;
        }
        fillPicture(colour, depth, mark);
        return 0;
    }

    public void reset() {
        startSettings();
    }

    public int colour(int x, int y) {
        if (!isWithin(x, SIZE - 1) || !isWithin(y, SIZE - 1)) {
            return BAD;
        }
        return pixelColours[SIZE * y + x];
    }

    public int depth(int x, int y) {
        if (!isWithin(x, SIZE - 1) || !isWithin(y, SIZE - 1)) {
            return BAD;
        }
        return pixelDepths[SIZE * y + x];
    }

    public int mark(int x, int y) {
        if (!isWithin(x, SIZE - 1) || !isWithin(y, SIZE - 1)) {
            return BAD;
        }
        return pixelMarks[SIZE * y + x];
    }

    public int digest() {
        int sum = 0;
        for (int pixel = 0; pixel < PIXELS; pixel++) {
            sum += (pixel + 1) * (pixelColours[pixel] + 3 * pixelDepths[pixel] + 7 * pixelMarks[pixel]);
        }
        return sum;
    }

    public int hits() {
        return hitCount;
    }

    public int covered(int corners) {
        if (!isWithin(corners, TRIANGLES - 1)) {
            return BAD;
        }
        int a = corners / 36;
        int b = corners / 6 % 6;
        int c = corners % 6;
        int area = areaOf(a, b, c);
        if (isNotDrawn(area)) {
            return 0;
        }
        return area > 0 ? countFromFront(a, b, c) : countFromFront(a, c, b);
    }

    private static boolean isWithin(int value, int greatest) {
        return value >= 0 && value <= greatest;
    }

    private static int part(int colour, int shift) {
        return (colour >> shift) & FULL;
    }

    private static int greatestValue(int what) {
        switch (what) {
            case DEPTH_TEST:
            case MARK_CHANGE:
                return 3;
            case MIXING:
                return 4;
            case MARK_TEST:
                return 2;
            case SIGN:
                return LAST_MARK;
            default:
                return 1;
        }
    }

    private void fillPicture(int colour, int depth, int mark) {
        for (int pixel = 0; pixel < PIXELS; pixel++) {
            pixelColours[pixel] = colour;
            pixelDepths[pixel] = depth;
            pixelMarks[pixel] = mark;
        }
    }

    private void startSettings() {
        startCorners();
        startPattern();
        startRules();
    }

    private void startCorners() {
        for (int corner = 0; corner < CORNERS; corner++) {
            cornerX[corner] = 0;
            cornerY[corner] = 0;
            cornerDepth[corner] = 0;
            cornerRed[corner] = 0;
            cornerGreen[corner] = 0;
            cornerBlue[corner] = 0;
            cornerU[corner] = 0;
            cornerV[corner] = 0;
        }
    }

    private void startPattern() {
        for (int cell = 0; cell < CELLS; cell++) {
            cellColours[cell] = 0;
        }
    }

    private void startRules() {
        rules[DEPTH_TEST] = 2;
        rules[DEPTHS_WRITTEN] = 1;
        rules[MIXING] = 0;
        rules[MARK_TEST] = 0;
        rules[MARK_CHANGE] = 0;
        rules[SIGN] = 0;
        rules[BEHIND_LEFT_OUT] = 0;
        rules[PATTERN_USED] = 0;
        left = 0;
        right = SIZE - 1;
        top = 0;
        bottom = SIZE - 1;
    }

    // SIDE of the corners p and q and any place.
    private int sideOf(int p, int q, int placeX, int placeY) {
        int px = cornerX[p];
        int py = cornerY[p];
        return (cornerX[q] - px) * (placeY - py) - (cornerY[q] - py) * (placeX - px);
    }

    // SIDE of the corners p and q and the middle of pixel (x, y).
    private int weightAt(int p, int q, int x, int y) {
        return sideOf(p, q, 16 * x + 8, 16 * y + 8);
    }

    private int areaOf(int a, int b, int c) {
        return sideOf(a, b, cornerX[c], cornerY[c]);
    }

    private boolean isNotDrawn(int area) {
        return area == 0 || (area < 0 && rules[BEHIND_LEFT_OUT] == 1);
    }

    // A middle that lies right on an edge belongs to one of the two triangles
    // that share the edge, so the edge's direction decides.
    private boolean isInside(int p, int q, int weight) {
        if (weight != 0) {
            return weight > 0;
        }
        if (cornerY[q] != cornerY[p]) {
            return cornerY[q] < cornerY[p];
        }
        return cornerX[q] > cornerX[p];
    }

    private boolean covers(int a, int b, int c, int x, int y) {
        int weightA = weightAt(b, c, x, y);
        int weightB = weightAt(c, a, x, y);
        int weightC = weightAt(a, b, x, y);
        return isInside(b, c, weightA) && isInside(c, a, weightB) && isInside(a, b, weightC);
    }

    private int countFromFront(int a, int b, int c) {
        int count = 0;
        for (int y = 0; y < SIZE; y++) {
            for (int x = 0; x < SIZE; x++) {
                if (covers(a, b, c, x, y)) {
                    count++;
                }
            }
        }
        return count;
    }

    private void drawFromFront(int a, int b, int c) {
        for (int y = 0; y < SIZE; y++) {
            for (int x = 0; x < SIZE; x++) {
                if (isInWindow(x, y) && covers(a, b, c, x, y)) {
                    drawPixel(a, b, c, x, y);
                }
            }
        }
    }

    private boolean isInWindow(int x, int y) {
        return x >= left && x <= right && y >= top && y <= bottom;
    }

    private void drawPixel(int a, int b, int c, int x, int y) {
        int weightA = weightAt(b, c, x, y);
        int weightB = weightAt(c, a, x, y);
        int weightC = weightAt(a, b, x, y);
        int pixel = SIZE * y + x;
        int depth = numberAt(cornerDepth, a, b, c, weightA, weightB, weightC);
        if (!passesMarkTest(pixelMarks[pixel]) || !passesDepthTest(depth, pixelDepths[pixel])) {
            return;
        }
        hitCount++;
        pixelMarks[pixel] = changedMark(pixelMarks[pixel]);
        if (rules[DEPTHS_WRITTEN] == 1) {
            pixelDepths[pixel] = depth;
        }
        pixelColours[pixel] = paintedColour(a, b, c, weightA, weightB, weightC, pixelColours[pixel]);
    }

    // The weights always add up to the area, so it needs no parameter of its own.
    private static int numberAt(int[] numbers, int a, int b, int c, int weightA, int weightB, int weightC) {
        int area = weightA + weightB + weightC;
        if (area <= 0) {
            return 0;
        }
        return (weightA * numbers[a] + weightB * numbers[b] + weightC * numbers[c]) / area;
    }

    private boolean passesMarkTest(int mark) {
        switch (rules[MARK_TEST]) {
            case 1:
                return mark == rules[SIGN];
            case 2:
                return mark != rules[SIGN];
            default:
                return true;
        }
    }

    private boolean passesDepthTest(int depth, int depthBefore) {
        switch (rules[DEPTH_TEST]) {
            case 1:
                return true;
            case 2:
                return depth < depthBefore;
            case 3:
                return depth <= depthBefore;
            default:
                return false;
        }
    }

    private int changedMark(int mark) {
        switch (rules[MARK_CHANGE]) {
            case 1:
                return rules[SIGN];
            case 2:
                return mark == LAST_MARK ? 0 : mark + 1;
            case 3:
                return mark ^ rules[SIGN];
            default:
                return mark;
        }
    }

    private int paintedColour(int a, int b, int c, int weightA, int weightB, int weightC, int before) {
        int red = numberAt(cornerRed, a, b, c, weightA, weightB, weightC);
        int green = numberAt(cornerGreen, a, b, c, weightA, weightB, weightC);
        int blue = numberAt(cornerBlue, a, b, c, weightA, weightB, weightC);
        // s * 255 / 255 is s: a white cell does what no pattern does.
        int cell = WHITE;
        if (rules[PATTERN_USED] == 1) {
            int u = numberAt(cornerU, a, b, c, weightA, weightB, weightC);
            int v = numberAt(cornerV, a, b, c, weightA, weightB, weightC);
            cell = cellColourAt(u, v);
        }
        int newRed = mixedPart(red, cell, before, 16);
        int newGreen = mixedPart(green, cell, before, 8);
        int newBlue = mixedPart(blue, cell, before, 0);
        return 65536 * newRed + 256 * newGreen + newBlue;
    }

    private int cellColourAt(int u, int v) {
        if (!isWithin(u, LAST_AIM) || !isWithin(v, LAST_AIM)) {
            return 0;
        }
        return cellColours[PATTERN_SIZE * (v / 16) + u / 16];
    }

    private int mixedPart(int number, int cell, int before, int shift) {
        int p = part(cell, shift);
        int t = part(before, shift);
        int s = number * p / 255;
        switch (rules[MIXING]) {
            case 1:
                return s + t > FULL ? FULL : s + t;
            case 2:
                return (s + t) / 2;
            case 3:
                return s * t / 255;
            case 4:
                return t;
            default:
                return s;
        }
    }
}
