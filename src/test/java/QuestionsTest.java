/** Promises 7 to 16: the questions on small grids whose answers are seen by eye, and wrong inputs. */
public final class QuestionsTest {
    private static final int[] BAD_STREETS = {-1, 17, Integer.MIN_VALUE, Integer.MAX_VALUE};
    private static final int[] BAD_CROSSINGS = {-1, 12, 32, Integer.MIN_VALUE, Integer.MAX_VALUE};

    public static void main(String[] args) {
        emptyGrid();
        oneWay();
        closedStreet();
        fullGrid();
        wrongCuts();
        wrongCrossings();
        wrongStreets();
        Due.end();
    }

    private static void emptyGrid() {
        GridDuals x = new GridDuals();
        Due.is("empty: flow()", x.flow(), 0);
        Due.is("empty: firstCut()", x.firstCut(), 1);
        Due.is("empty: lastCut()", x.lastCut(), 2047);
        Due.is("empty: cutStreets()", x.cutStreets(), 0);
        Due.is("empty: weight(1)", x.weight(1), 0);
        Due.is("empty: leastWith(10)", x.leastWith(10), 0);
        Due.is("empty: leastWithout(1)", x.leastWithout(1), 0);
        Due.is("empty: loss(0)", x.loss(0), 0);
        Due.is("empty: gain(0, 100)", x.gain(0, 100), 0);
        for (int a = 0; a < 12; a++) {
            for (int b = 0; b < 12; b++) {
                Due.is("empty: way(" + a + ", " + b + ")", x.way(a, b), a == b ? 1 : 0);
            }
        }
    }

    /** The way 0, 1, 2, 3, 7, 11 with the capacities 9, 4, 8, 4, 6. */
    private static GridDuals alongTheEdge() {
        GridDuals x = new GridDuals();
        x.set(0, 9);
        x.set(1, 4);
        x.set(2, 8);
        x.set(12, 4);
        x.set(16, 6);
        return x;
    }

    private static void oneWay() {
        GridDuals x = alongTheEdge();
        Due.is("one way: flow()", x.flow(), 4);
        Due.is("one way: firstCut()", x.firstCut(), 3);
        Due.is("one way: lastCut()", x.lastCut(), 2047 - 128);
        Due.is("one way: cutStreets()", x.cutStreets(), 1);
        Due.is("one way: weight(1)", x.weight(1), 9);
        Due.is("one way: weight(5)", x.weight(5), 21);
        Due.is("one way: leastWith(7)", x.leastWith(7), 6);
        Due.is("one way: leastWith(3)", x.leastWith(3), 4);
        Due.is("one way: leastWith(0)", x.leastWith(0), 4);
        Due.is("one way: leastWithout(1)", x.leastWithout(1), 9);
        Due.is("one way: leastWithout(2)", x.leastWithout(2), 4);
        Due.is("one way: leastWithout(11)", x.leastWithout(11), 4);
        Due.is("one way: loss(0)", x.loss(0), 4);
        Due.is("one way: loss(3)", x.loss(3), 0);
        Due.is("one way: gain(1, 2)", x.gain(1, 2), 0);
        x.set(12, 20);
        Due.is("one way: gain(1, 0)", x.gain(1, 0), 0);
        Due.is("one way: gain(1, 1)", x.gain(1, 1), 1);
        Due.is("one way: gain(1, 2) with room", x.gain(1, 2), 2);
        Due.is("one way: gain(1, 100)", x.gain(1, 100), 2);
        Due.is("one way: way(0, 11)", x.way(0, 11), 1);
        Due.is("one way: way(11, 0)", x.way(11, 0), 1);
        Due.is("one way: way(0, 4)", x.way(0, 4), 0);
        Due.is("one way: way(4, 4)", x.way(4, 4), 1);
    }

    private static void closedStreet() {
        GridDuals x = alongTheEdge();
        x.close(2, 1);
        Due.is("closed: flow()", x.flow(), 0);
        Due.is("closed: firstCut()", x.firstCut(), 7);
        Due.is("closed: lastCut()", x.lastCut(), 2047 - 128 - 8);
        Due.is("closed: cutStreets()", x.cutStreets(), 0);
        Due.is("closed: weight(7)", x.weight(7), 0);
        Due.is("closed: way(0, 11)", x.way(0, 11), 0);
        Due.is("closed: way(2, 3)", x.way(2, 3), 0);
        Due.is("closed: loss(2)", x.loss(2), 0);
        Due.is("closed: gain(2, 100)", x.gain(2, 100), 0);
        Due.is("closed: gain(2, 101)", x.gain(2, 101), -2);
        Due.is("closed: loss(0)", x.loss(0), 0);
        Due.is("closed: leastWith(3)", x.leastWith(3), 4);
        x.close(2, 0);
        Due.is("opened: flow()", x.flow(), 4);
        Due.is("opened: loss(2)", x.loss(2), 4);
        Due.is("opened: way(0, 11)", x.way(0, 11), 1);
    }

    private static void fullGrid() {
        GridDuals x = new GridDuals();
        for (int street = 0; street < 17; street++) {
            x.set(street, 20);
        }
        Due.is("full: flow()", x.flow(), 40);
        Due.is("full: firstCut()", x.firstCut(), 1);
        Due.is("full: lastCut()", x.lastCut(), 2047);
        Due.is("full: cutStreets()", x.cutStreets(), 2);
        // Coloured like a chess board, every street joins two colours: 17 * 20.
        Due.is("full: weight(dark squares)", x.weight(1 + 4 + 32 + 128 + 256 + 1024), 340);
        Due.is("full: gain(0, 100)", x.gain(0, 100), 0);
        x.set(0, 0);
        Due.is("full: gain(0, 20)", x.gain(0, 20), 20);
        Due.is("full: gain(0, 100) again", x.gain(0, 100), 20);
        // 0, 1, 2, 3, 7, 6, 5, 4, 8, 9, 10, 11: the longest way that the grid has.
        int[] snake = {0, 1, 2, 12, 5, 4, 3, 13, 6, 7, 8};
        GridDuals y = new GridDuals();
        for (int street : snake) {
            y.set(street, 1);
        }
        Due.is("snake: way(0, 11)", y.way(0, 11), 1);
        Due.is("snake: way(11, 0)", y.way(11, 0), 1);
        Due.is("snake: flow()", y.flow(), 1);
    }

    private static void wrongCuts() {
        GridDuals x = alongTheEdge();
        Due.is("weight(-1)", x.weight(-1), -1);
        Due.is("weight(4096)", x.weight(4096), -1);
        Due.is("weight(4097)", x.weight(4097), -1);
        Due.is("weight(least int)", x.weight(Integer.MIN_VALUE), -1);
        Due.is("weight(least int + 1)", x.weight(Integer.MIN_VALUE + 1), -1);
        Due.is("weight(greatest int)", x.weight(Integer.MAX_VALUE), -1);
        Due.is("weight(0)", x.weight(0), -2);
        Due.is("weight(2048)", x.weight(2048), -2);
        Due.is("weight(4094)", x.weight(4094), -2);
        Due.is("weight(2049)", x.weight(2049), -3);
        Due.is("weight(4095)", x.weight(4095), -3);
        Due.is("weight(2047)", x.weight(2047), 6);
    }

    private static void wrongCrossings() {
        GridDuals x = alongTheEdge();
        for (int bad : BAD_CROSSINGS) {
            Due.is("leastWith(" + bad + ")", x.leastWith(bad), -1);
            Due.is("leastWithout(" + bad + ")", x.leastWithout(bad), -1);
            Due.is("way(" + bad + ", 0)", x.way(bad, 0), -1);
            Due.is("way(0, " + bad + ")", x.way(0, bad), -1);
            Due.is("way(" + bad + ", " + bad + ")", x.way(bad, bad), -1);
        }
        Due.is("leastWith(11)", x.leastWith(11), -2);
        Due.is("leastWithout(0)", x.leastWithout(0), -2);
    }

    private static void wrongStreets() {
        GridDuals x = alongTheEdge();
        for (int bad : BAD_STREETS) {
            Due.is("loss(" + bad + ")", x.loss(bad), -1);
            Due.is("gain(" + bad + ", 1)", x.gain(bad, 1), -1);
            Due.is("gain(" + bad + ", 101)", x.gain(bad, 101), -1);
        }
        int[] badAmounts = {-1, 101, Integer.MIN_VALUE, Integer.MAX_VALUE};
        for (int bad : badAmounts) {
            Due.is("gain(16, " + bad + ")", x.gain(16, bad), -2);
        }
    }
}
