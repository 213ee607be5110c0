/** The grids that the tests begin with, and the looks at all that an object holds and answers. */
final class Grids {
    /** Coloured like a chess board, every street joins two colours. */
    static final int DARK_SQUARES = 1 + 4 + 32 + 128 + 256 + 1024;

    /** 0, 1, 2, 3, 7, 6, 5, 4, 8, 9, 10, 11: the longest way that the grid has. */
    static final int[] LONGEST_WAY = {0, 1, 2, 12, 5, 4, 3, 13, 6, 7, 8};

    private static final int[] SOME_CUTS = {1, 3, 17, 51, 273, 1023, 1023 + 512, DARK_SQUARES, 2045, 2047};

    private Grids() {
    }

    static Model noCapacity() {
        return new Model();
    }

    static Model allAt20() {
        Model model = new Model();
        java.util.Arrays.fill(model.capacity, 20);
        return model;
    }

    static Model allClosed() {
        Model model = allAt20();
        java.util.Arrays.fill(model.closed, true);
        return model;
    }

    /** Capacities that are all different, 0 and 20 among them; the first, the last and another street closed. */
    static Model mixed() {
        Model model = new Model();
        for (int street = 0; street < 17; street++) {
            model.capacity[street] = (7 + 5 * street) % 21;
        }
        model.closed[0] = true;
        model.closed[11] = true;
        model.closed[16] = true;
        return model;
    }

    /** Given streets have the capacity 1, all others 0. */
    static Model ones(int... streets) {
        Model model = new Model();
        for (int street : streets) {
            model.capacity[street] = 1;
        }
        return model;
    }

    /** The way 0, 1, 2, 3, 7, 11 with the capacities 9, 4, 8, 4, 6. */
    static Model alongTheEdge() {
        Model model = new Model();
        model.capacity[0] = 9;
        model.capacity[1] = 4;
        model.capacity[2] = 8;
        model.capacity[12] = 4;
        model.capacity[16] = 6;
        return model;
    }

    /** Two ways of 20 come together at crossing 5, pass street 4 to crossing 6 and part again. */
    static Model narrowMiddle(int middle) {
        Model model = new Model();
        for (int street : new int[] {0, 10, 9, 3, 5, 16, 15, 8}) {
            model.capacity[street] = 20;
        }
        model.capacity[4] = middle;
        return model;
    }

    static Model[] all() {
        return new Model[] {noCapacity(), allAt20(), allClosed(), mixed(), ones(LONGEST_WAY), alongTheEdge(),
            narrowMiddle(0), narrowMiddle(20)};
    }

    /** A new object brought to the model's state; takes at most 34 of its calls. */
    static GridDuals made(Model model) {
        GridDuals x = new GridDuals();
        for (int street = 0; street < 17; street++) {
            if (model.capacity[street] != 0) {
                x.set(street, model.capacity[street]);
            }
            if (model.closed[street]) {
                x.close(street, 1);
            }
        }
        return x;
    }

    /** Every capacity and every closed street; 34 calls. */
    static void sameState(String after, GridDuals x, Model model) {
        for (int street = 0; street < 17; street++) {
            Due.is("capacity(" + street + ") after " + after, x.capacity(street), model.capacity[street]);
        }
        // Only close tells whether a street is closed; told to leave it so, it changes nothing.
        for (int street = 0; street < 17; street++) {
            int closed = model.closed[street] ? 1 : 0;
            Due.is("close(" + street + ", " + closed + ") after " + after, x.close(street, closed), closed);
        }
    }

    /** Every question about flows, cuts and ways; some 260 calls. */
    static void sameAnswers(String after, GridDuals x, Model model) {
        Due.is("flow() after " + after, x.flow(), model.flow());
        Due.is("firstCut() after " + after, x.firstCut(), model.firstCut());
        Due.is("lastCut() after " + after, x.lastCut(), model.lastCut());
        Due.is("cutStreets() after " + after, x.cutStreets(), model.cutStreets());
        for (int cut : SOME_CUTS) {
            Due.is("weight(" + cut + ") after " + after, x.weight(cut), model.weight(cut));
        }
        for (int k = 0; k < 11; k++) {
            Due.is("leastWith(" + k + ") after " + after, x.leastWith(k), model.leastWith(k));
            Due.is("leastWithout(" + (k + 1) + ") after " + after, x.leastWithout(k + 1), model.leastWithout(k + 1));
        }
        for (int street = 0; street < 17; street++) {
            Due.is("loss(" + street + ") after " + after, x.loss(street), model.loss(street));
            Due.is("gain(" + street + ", 3) after " + after, x.gain(street, 3), model.gain(street, 3));
            Due.is("gain(" + street + ", 100) after " + after, x.gain(street, 100), model.gain(street, 100));
        }
        for (int a = 0; a < 12; a++) {
            for (int b = 0; b < 12; b++) {
                Due.is("way(" + a + ", " + b + ") after " + after, x.way(a, b), model.way(a, b));
            }
        }
    }
}
