/** Long runs of mixed calls, right and wrong ones, each compared with the plain model. */
public final class ModelTest {
    private static final int RUNS = 300;
    // An object is promised to answer 512 calls.
    private static final int CALLS = 512;

    private static long state;

    public static void main(String[] args) {
        for (int run = 1; run <= RUNS; run++) {
            state = 7919L * run + 12345;
            oneRun(run);
        }
        Check.end();
    }

    /** A fixed row of numbers, so that every run of this test is the same. */
    private static int below(int bound) {
        state = state * 6364136223846793005L + 1442695040888963407L;
        return (int) ((state >>> 33) % bound);
    }

    /** Mostly 0 .. greatest, often an end of it, now and then outside. */
    private static int upTo(int greatest) {
        switch (below(40)) {
            case 0: return -1;
            case 1: return greatest + 1;
            case 2: case 3: case 4: return greatest;
            case 5: case 6: case 7: return 0;
            default: return below(greatest + 1);
        }
    }

    private static int someColour() {
        return below(4) == 0 ? 0xFFFFFF : upTo(0xFFFFFF);
    }

    /** Often on a pixel's middle or border, where the edges decide. */
    private static int somePlace() {
        int way = below(3);
        if (way == 0) {
            return upTo(147455);
        }
        int step = way == 1 ? 16 : 8;
        int x = step * below(384 / step) - 64;
        int y = step * below(384 / step) - 64;
        return Scene.place(x, y);
    }

    private static void oneRun(int run) {
        TileRenderer r = new TileRenderer();
        Model m = new Model();
        int calls = 0;
        while (calls < CALLS - 4) {
            calls += change(run, r, m);
            if (below(3) == 0) {
                calls += question(run, r, m);
            }
        }
        Check.same("run " + run + " digest at the end", r.digest(), m.digest());
        Check.same("run " + run + " hits at the end", r.hits(), m.hits);
    }

    private static int change(int run, TileRenderer r, Model m) {
        int a = 0;
        int b = 0;
        int c = 0;
        int kind = below(100);
        if (kind < 22) {
            a = upTo(5);
            b = somePlace();
            c = upTo(255);
            int colour = someColour();
            Check.same("run " + run + " corner", r.corner(a, b, c, colour), m.corner(a, b, c, colour));
        } else if (kind < 30) {
            a = upTo(5);
            b = upTo(127);
            c = upTo(127);
            Check.same("run " + run + " aim", r.aim(a, b, c), m.aim(a, b, c));
        } else if (kind < 36) {
            a = upTo(7);
            b = upTo(7);
            c = someColour();
            Check.same("run " + run + " cell", r.cell(a, b, c), m.cell(a, b, c));
        } else if (kind < 39) {
            a = upTo(8);
            b = upTo(8);
            Check.same("run " + run + " grab", r.grab(a, b), m.grab(a, b));
        } else if (kind < 42) {
            a = below(3) == 0 ? upTo(65535) : Scene.box(below(6), 10 + below(6), below(6), 10 + below(6));
            Check.same("run " + run + " window", r.window(a), m.window(a));
        } else if (kind < 58) {
            a = upTo(7);
            b = upTo(a < 0 || a > 7 ? 1 : Model.GREATEST[a]);
            Check.same("run " + run + " rule", r.rule(a, b), m.rule(a, b));
        } else if (kind < 61) {
            a = someColour();
            b = upTo(255);
            c = upTo(15);
            Check.same("run " + run + " clear", r.clear(a, b, c), m.clear(a, b, c));
        } else if (kind == 61) {
            if (below(4) == 0) {
                r.reset();
                m.reset();
            }
        } else {
            a = upTo(215);
            Check.same("run " + run + " draw", r.draw(a), m.draw(a));
        }
        return 1;
    }

    private static int question(int run, TileRenderer r, Model m) {
        int x = upTo(15);
        int y = upTo(15);
        int t = upTo(215);
        switch (below(6)) {
            case 0:
                Check.same("run " + run + " colour", r.colour(x, y), m.ask(m.colours, x, y));
                break;
            case 1:
                Check.same("run " + run + " depth", r.depth(x, y), m.ask(m.depths, x, y));
                break;
            case 2:
                Check.same("run " + run + " mark", r.mark(x, y), m.ask(m.marks, x, y));
                break;
            case 3:
                Check.same("run " + run + " digest", r.digest(), m.digest());
                break;
            case 4:
                Check.same("run " + run + " hits", r.hits(), m.hits);
                break;
            default:
                Check.same("run " + run + " covered(" + t + ")", r.covered(t), m.covered(t));
                break;
        }
        return 1;
    }
}
