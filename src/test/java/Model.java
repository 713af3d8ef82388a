import java.util.ArrayList;
import java.util.Arrays;
import java.util.List;

/** The document in its own words, written apart from the program: slow, with objects and longs. */
final class Model {
    static final int[] GREATEST = {3, 1, 4, 2, 3, 15, 1, 1};

    /** A corner as it is at some time; numbers are depth, red, green, blue, U and V. */
    private record Corner(long x, long y, long[] numbers) {
    }

    private record Covered(int x, int y, long[] numbers) {
    }

    final int[][] colours = new int[16][16];
    final int[][] depths = new int[16][16];
    final int[][] marks = new int[16][16];
    int hits = 0;

    private final int[][] cells = new int[8][8];
    private final Corner[] corners = new Corner[6];
    private int[] rules;
    private int[] box;

    Model() {
        for (int[] row : depths) {
            Arrays.fill(row, 255);
        }
        reset();
    }

    void reset() {
        Arrays.setAll(corners, k -> new Corner(0, 0, new long[6]));
        for (int[] row : cells) {
            Arrays.fill(row, 0);
        }
        rules = new int[] {2, 1, 0, 0, 0, 0, 0, 0};
        box = new int[] {0, 15, 0, 15};
    }

    private static boolean out(int value, int greatest) {
        return value < 0 || value > greatest;
    }

    int corner(int k, int place, int depth, int colour) {
        if (out(k, 5) || out(place, 147455) || out(depth, 255) || out(colour, 16777215)) {
            return -1;
        }
        long[] old = corners[k].numbers;
        long[] numbers = {depth, colour / 65536, colour / 256 % 256, colour % 256, old[4], old[5]};
        corners[k] = new Corner(place % 384 - 64, place / 384 - 64, numbers);
        return 0;
    }

    int aim(int k, int u, int v) {
        if (out(k, 5) || out(u, 127) || out(v, 127)) {
            return -1;
        }
        long[] numbers = corners[k].numbers.clone();
        numbers[4] = u;
        numbers[5] = v;
        corners[k] = new Corner(corners[k].x, corners[k].y, numbers);
        return 0;
    }

    int cell(int u, int v, int colour) {
        if (out(u, 7) || out(v, 7) || out(colour, 16777215)) {
            return -1;
        }
        int before = cells[u][v];
        cells[u][v] = colour;
        return before;
    }

    int grab(int x, int y) {
        if (out(x, 8) || out(y, 8)) {
            return -1;
        }
        for (int u = 0; u < 8; u++) {
            for (int v = 0; v < 8; v++) {
                cells[u][v] = colours[x + u][y + v];
            }
        }
        return 0;
    }

    int window(int code) {
        if (out(code, 65535)) {
            return -1;
        }
        box = new int[] {code >> 12, code >> 8 & 15, code >> 4 & 15, code & 15};
        return 0;
    }

    int rule(int what, int value) {
        if (out(what, 7) || out(value, GREATEST[what])) {
            return -1;
        }
        int before = rules[what];
        rules[what] = value;
        return before;
    }

    int clear(int colour, int depth, int mark) {
        if (out(colour, 16777215) || out(depth, 255) || out(mark, 15)) {
            return -1;
        }
        for (int x = 0; x < 16; x++) {
            Arrays.fill(colours[x], colour);
            Arrays.fill(depths[x], depth);
            Arrays.fill(marks[x], mark);
        }
        return 0;
    }

    int ask(int[][] of, int x, int y) {
        return out(x, 15) || out(y, 15) ? -1 : of[x][y];
    }

    int digest() {
        long sum = 0;
        for (int x = 0; x < 16; x++) {
            for (int y = 0; y < 16; y++) {
                sum += (16L * y + x + 1) * (colours[x][y] + 3L * depths[x][y] + 7L * marks[x][y]);
            }
        }
        return (int) sum;
    }

    int covered(int code) {
        return out(code, 215) ? -1 : coveredPixels(code).size();
    }

    int draw(int code) {
        if (out(code, 215)) {
            return -1;
        }
        for (Covered p : coveredPixels(code)) {
            if (p.x >= box[0] && p.x <= box[1] && p.y >= box[2] && p.y <= box[3]) {
                drawPixel(p);
            }
        }
        return 0;
    }

    private static long side(Corner p, Corner q, Corner r) {
        return (q.x - p.x) * (r.y - p.y) - (q.y - p.y) * (r.x - p.x);
    }

    private List<Covered> coveredPixels(int code) {
        List<Covered> found = new ArrayList<>();
        Corner a = corners[code / 36];
        Corner b = corners[code / 6 % 6];
        Corner c = corners[code % 6];
        long area = side(a, b, c);
        if (area == 0 || area < 0 && rules[6] == 1) {
            return found;
        }
        Corner[] t = area < 0 ? new Corner[] {a, c, b} : new Corner[] {a, b, c};
        for (int x = 0; x < 16; x++) {
            for (int y = 0; y < 16; y++) {
                long[] numbers = numbersAt(t, new Corner(16 * x + 8, 16 * y + 8, null));
                if (numbers != null) {
                    found.add(new Covered(x, y, numbers));
                }
            }
        }
        return found;
    }

    /** The six numbers at a middle, or null if it is not covered. */
    private static long[] numbersAt(Corner[] t, Corner middle) {
        long area = side(t[0], t[1], t[2]);
        long[] sums = new long[6];
        for (int k = 0; k < 3; k++) {
            Corner p = t[(k + 1) % 3];
            Corner q = t[(k + 2) % 3];
            long weight = side(p, q, middle);
            boolean on = weight == 0 && (q.y < p.y || q.y == p.y && q.x > p.x);
            if (weight <= 0 && !on) {
                return null;
            }
            for (int n = 0; n < 6; n++) {
                sums[n] += weight * t[k].numbers[n];
            }
        }
        for (int n = 0; n < 6; n++) {
            sums[n] /= area;
        }
        return sums;
    }

    private void drawPixel(Covered p) {
        int sign = rules[5];
        int mark = marks[p.x][p.y];
        int depth = depths[p.x][p.y];
        int d = (int) p.numbers[0];
        boolean[] markPasses = {true, mark == sign, mark != sign};
        boolean[] depthPasses = {false, true, d < depth, d <= depth};
        if (!markPasses[rules[3]] || !depthPasses[rules[0]]) {
            return;
        }
        hits++;
        int[] newMarks = {mark, sign, (mark + 1) % 16, mark ^ sign};
        marks[p.x][p.y] = newMarks[rules[4]];
        depths[p.x][p.y] = rules[1] == 1 ? d : depth;
        int cell = cells[(int) p.numbers[4] / 16][(int) p.numbers[5] / 16];
        int[] unit = {65536, 256, 1};
        int colour = 0;
        for (int k = 0; k < 3; k++) {
            int s = (int) p.numbers[1 + k];
            int t = colours[p.x][p.y] / unit[k] % 256;
            if (rules[7] == 1) {
                s = s * (cell / unit[k] % 256) / 255;
            }
            int[] mixed = {s, Math.min(s + t, 255), (s + t) / 2, s * t / 255, t};
            colour += unit[k] * mixed[rules[2]];
        }
        colours[p.x][p.y] = colour;
    }
}
