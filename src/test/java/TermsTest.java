import java.util.ArrayList;
import java.util.List;

/** The sentences of "What it is" and of "Terms". */
public final class TermsTest {
    private interface Call {
        int on(GridDuals x);
    }

    private record Row(String name, int due, Call call) {
    }

    public static void main(String[] args) {
        atMost512Calls();
        numbersOfCrossings();
        neighbours();
        capacitiesAtFirst();
        numbersOfStreets();
        eitherDirection();
        amountUpToCapacity();
        asMuchInAsOut();
        valueOfAFlow();
        whatACutIs();
        weightOfACut();
        greatestValueIsLeastWeight();
        firstAndLastCut();
        closedUntilOpened();
        noneClosedAtFirst();
        noQuestionChangesAnything();
        refusedCallChangesNothing();
        testsInTheOrderNamed();
        goodCrossings();
        goodStreets();
        Due.end();
    }

    private static void atMost512Calls() {
        Due.sentence("An object is used for at most 512 calls after it has been made");
        GridDuals x = new GridDuals();
        for (int call = 1; call <= 511; call++) {
            Due.is("call " + call + ", set(16, ..)", x.set(16, call % 21), (call - 1) % 21);
        }
        Due.is("call 512, capacity(16)", x.capacity(16), 511 % 21);
        GridDuals y = new GridDuals();
        for (int call = 1; call <= 511; call++) {
            Due.is("call " + call + ", close(0, ..)", y.close(0, call % 2), (call - 1) % 2);
        }
        Due.is("call 512, close(0, 0)", y.close(0, 0), 1);
        GridDuals z = Grids.made(Grids.alongTheEdge());
        for (int call = 6; call <= 511; call++) {
            Due.is("call " + call + ", set(17, 1)", z.set(17, 1), -1);
        }
        Due.is("call 512, flow()", z.flow(), 4);
    }

    private static void numbersOfCrossings() {
        Due.sentence("crossing (r, c) has the number 4 * r + c, 0 .. 11");
        GridDuals x = new GridDuals();
        for (int r = 0; r < 3; r++) {
            for (int c = 0; c < 4; c++) {
                int k = 4 * r + c;
                Due.is("way(" + k + ", " + k + ")", x.way(k, k), 1);
                if (c < 3) {
                    Due.is("between(" + k + ", right)", x.between(k, k + 1), 3 * r + c);
                }
                if (r < 2) {
                    Due.is("between(" + k + ", below)", x.between(k, k + 4), 9 + 4 * r + c);
                }
            }
        }
        Due.is("way(11, 11)", x.way(11, 11), 1);
        Due.is("way(12, 12)", x.way(12, 12), -1);
    }

    private static void neighbours() {
        Due.sentence("Two crossings are NEIGHBOURS if they are side by side in a row or a column");
        GridDuals x = new GridDuals();
        int pairs = 0;
        for (int a = 0; a < 12; a++) {
            for (int b = 0; b < 12; b++) {
                int apart = Math.abs(a / 4 - b / 4) + Math.abs(a % 4 - b % 4);
                int got = x.between(a, b);
                pairs += got >= 0 ? 1 : 0;
                Due.is("between(" + a + ", " + b + ") is a street", got >= 0 ? 1 : 0, apart == 1 ? 1 : 0);
            }
        }
        Due.is("pairs of neighbours, both ways round", pairs, 34);
        Due.is("between(3, 4), a row's end and the next one's start", x.between(3, 4), -2);
        Due.is("between(8, 7), a row's start and the last one's end", x.between(8, 7), -2);
        Due.is("between(0, 3), the ends of a row", x.between(0, 3), -2);
        Due.is("between(3, 11), the ends of a column", x.between(3, 11), -2);
        Due.is("between(0, 5), corner to corner", x.between(0, 5), -2);
        Due.is("between(6, 6), itself", x.between(6, 6), -2);
    }

    private static void capacitiesAtFirst() {
        Due.sentence("a STREET, with a CAPACITY 0 .. 20, 0 at first");
        for (int street = 0; street < 17; street++) {
            GridDuals x = new GridDuals();
            Due.is("capacity(" + street + ") at first", x.capacity(street), 0);
            Due.is("set(" + street + ", 20) at first", x.set(street, 20), 0);
            Due.is("capacity(" + street + ") at the most", x.capacity(street), 20);
            Due.is("set(" + street + ", 21)", x.set(street, 21), -2);
            Due.is("set(" + street + ", 0)", x.set(street, 0), 20);
            Due.is("capacity(" + street + ") at the least", x.capacity(street), 0);
            Due.is("set(" + street + ", -1)", x.set(street, -1), -2);
        }
    }

    private static void numbersOfStreets() {
        Due.sentence("The streets along rows have the numbers 3 * r + c, 0 .. 8; those along columns 9 + 4 * r + c, 9 .. 16");
        int[][] ends = {{0, 1}, {1, 2}, {2, 3}, {4, 5}, {5, 6}, {6, 7}, {8, 9}, {9, 10}, {10, 11},
            {0, 4}, {1, 5}, {2, 6}, {3, 7}, {4, 8}, {5, 9}, {6, 10}, {7, 11}};
        for (int street = 0; street < 17; street++) {
            GridDuals x = new GridDuals();
            x.set(street, 1);
            for (int a = 0; a < 12; a++) {
                for (int b = a + 1; b < 12; b++) {
                    int joined = a == ends[street][0] && b == ends[street][1] ? 1 : 0;
                    Due.is("only street " + street + ": way(" + a + ", " + b + ")", x.way(a, b), joined);
                }
            }
        }
    }

    private static void eitherDirection() {
        Due.sentence("A FLOW gives every street a direction");
        Due.is("flow() to the left in the middle row", Grids.made(Grids.ones(Grids.LONGEST_WAY)).flow(), 1);
        // 0, 4, 8, 9, 5, 1, 2, 6, 10, 11.
        Due.is("flow() up the second column", Grids.made(Grids.ones(9, 13, 6, 14, 10, 1, 11, 15, 8)).flow(), 1);
    }

    private static void amountUpToCapacity() {
        Due.sentence("and an amount from 0 to its capacity");
        for (int street : Grids.LONGEST_WAY) {
            Model model = new Model();
            for (int other : Grids.LONGEST_WAY) {
                model.capacity[other] = 20;
            }
            for (int most : new int[] {0, 1, 19, 20}) {
                model.capacity[street] = most;
                Due.is("flow() with street " + street + " at " + most, Grids.made(model).flow(), most);
            }
        }
    }

    private static void asMuchInAsOut() {
        Due.sentence("at every crossing except 0 and 11 as much flows in as out");
        Model deadEnd = Grids.allAt20();
        deadEnd.capacity[8] = 0;
        deadEnd.capacity[16] = 0;
        Due.is("flow() with no street to 11", Grids.made(deadEnd).flow(), 0);
        Model fork = Grids.narrowMiddle(20);
        fork.capacity[5] = 3;
        fork.capacity[15] = 4;
        Due.is("flow() with 20 to crossing 6 and 3 and 4 from it", Grids.made(fork).flow(), 7);
    }

    private static void valueOfAFlow() {
        Due.sentence("its VALUE is what flows out of crossing 0 less what flows into it");
        Due.is("flow() with a circle through 0 alone", Grids.made(Grids.ones(0, 10, 3, 9)).flow(), 0);
        Due.is("flow() with a circle through 11 alone", Grids.made(Grids.ones(8, 16, 5, 15)).flow(), 0);
        Due.is("flow() with a circle through 0 and one street on", Grids.made(Grids.ones(0, 10, 3, 9, 4, 5, 16)).flow(), 1);
    }

    private static void whatACutIs() {
        Due.sentence("A CUT is a set of crossings that has crossing 0 and not crossing 11, written as the sum of 2^k");
        for (int from = 0; from < 4096; from += 512) {
            GridDuals x = new GridDuals();
            for (int cut = from; cut < from + 512; cut++) {
                int want = cut % 2 == 0 ? -2 : cut >= 2048 ? -3 : 0;
                Due.is("weight(" + cut + ")", x.weight(cut), want);
            }
        }
    }

    private static void weightOfACut() {
        Due.sentence("its WEIGHT is the sum of the capacities of all streets with just one end in it");
        for (Model model : Grids.all()) {
            int[] weights = weights(model);
            for (int cut = 1; cut < 2048; cut += 2) {
                Due.is("weight(" + cut + ") with " + model, weights[cut], model.weight(cut));
            }
        }
        GridDuals x = Grids.made(Grids.ones(4));
        Due.is("only 5 of 5 and 6 in it", x.weight(1 + 32), 1);
        Due.is("only 6 of 5 and 6 in it", x.weight(1 + 64), 1);
        Due.is("both 5 and 6 in it", x.weight(1 + 32 + 64), 0);
        Due.is("neither 5 nor 6 in it", x.weight(1), 0);
        Due.is("greatest weight of all", Grids.made(Grids.allAt20()).weight(Grids.DARK_SQUARES), 340);
    }

    /** What weight answers for every cut; asked of several objects, as there are more than 512 cuts. */
    private static int[] weights(Model model) {
        int[] weights = new int[2048];
        GridDuals x = null;
        for (int cut = 1; cut < 2048; cut += 2) {
            if (cut % 512 == 1) {
                x = Grids.made(model);
            }
            weights[cut] = x.weight(cut);
        }
        return weights;
    }

    private static int least(int[] weights) {
        int least = weights[1];
        for (int cut = 1; cut < 2048; cut += 2) {
            least = Math.min(least, weights[cut]);
        }
        return least;
    }

    private static void greatestValueIsLeastWeight() {
        Due.sentence("The greatest value of a flow is the least weight of a cut");
        for (Model model : Grids.all()) {
            int flow = Grids.made(model).flow();
            Due.is("flow() with " + model, flow, model.flow());
            Due.is("least weight with " + model, least(weights(model)), flow);
        }
    }

    private static void firstAndLastCut() {
        Due.sentence("THE FIRST CUT is part of all others of least weight, all others are part of THE LAST CUT");
        for (Model model : Grids.all()) {
            int[] weights = weights(model);
            int least = least(weights);
            GridDuals x = Grids.made(model);
            int first = x.firstCut();
            int last = x.lastCut();
            Due.is("weight(firstCut()) with " + model, x.weight(first), least);
            Due.is("weight(lastCut()) with " + model, x.weight(last), least);
            for (int cut = 1; cut < 2048; cut += 2) {
                if (weights[cut] == least) {
                    Due.is(cut + " has the first cut with " + model, first & ~cut, 0);
                    Due.is(cut + " is in the last cut with " + model, cut & ~last, 0);
                }
            }
        }
    }

    private static void closedUntilOpened() {
        Due.sentence("A street may be CLOSED: then its capacity counts as 0 until it is opened");
        for (int street = 0; street < 17; street++) {
            Model model = Grids.allAt20();
            GridDuals x = Grids.made(model);
            x.close(street, 1);
            model.closed[street] = true;
            Grids.sameAnswers("closing street " + street, x, model);
            x.close(street, 0);
            model.closed[street] = false;
            Due.is("flow() after opening street " + street, x.flow(), 40);
            Due.is("weight(..) after opening street " + street, x.weight(Grids.DARK_SQUARES), 340);
            Grids.sameState("opening street " + street, x, model);
        }
        GridDuals x = Grids.made(Grids.ones(Grids.LONGEST_WAY));
        x.close(4, 1);
        x.set(4, 20);
        Due.is("flow() after set on a closed street", x.flow(), 0);
        x.sow(17, 5);
        // The streets 3, 4, 10 and 14 of crossing 5 now have 20, 20, 20 and 3.
        Due.is("weight of crossing 5 after sow on closed street 4", x.weight(1 + 32) - x.weight(1), 43);
        Due.is("close(4, 0) after set and sow", x.close(4, 0), 1);
        Due.is("weight of crossing 5 after opening street 4", x.weight(1 + 32) - x.weight(1), 63);
    }

    private static void noneClosedAtFirst() {
        Due.sentence("none is closed at first");
        for (int street = 0; street < 17; street++) {
            Due.is("close(" + street + ", 1) at first", new GridDuals().close(street, 1), 0);
            Due.is("close(" + street + ", 0) at first", new GridDuals().close(street, 0), 0);
        }
    }

    private static void noQuestionChangesAnything() {
        Due.sentence("No question changes anything");
        for (Row row : questions()) {
            Model model = Grids.mixed();
            GridDuals x = Grids.made(model);
            int first = row.call.on(x);
            Due.is(row.name + " asked again", row.call.on(x), first);
            Grids.sameAnswers(row.name, x, model);
        }
        for (Model model : Grids.all()) {
            for (Row row : questions()) {
                GridDuals x = Grids.made(model);
                row.call.on(x);
                Grids.sameState(row.name, x, model);
            }
        }
    }

    private static void refusedCallChangesNothing() {
        Due.sentence("A refused call changes nothing");
        for (Row row : refused()) {
            Model model = Grids.mixed();
            GridDuals x = Grids.made(model);
            Due.is(row.name, row.call.on(x), row.due);
            Grids.sameAnswers(row.name, x, model);
            Grids.sameState(row.name, x, model);
        }
        for (Row row : refused()) {
            GridDuals x = new GridDuals();
            Due.is(row.name + " as the first call", row.call.on(x), row.due);
            Grids.sameState(row.name + " as the first call", x, Grids.noCapacity());
        }
    }

    private static void testsInTheOrderNamed() {
        Due.sentence("In every method the tests are made in the order named");
        for (int bad : new int[] {-1, Integer.MIN_VALUE, Integer.MAX_VALUE}) {
            for (Model model : Grids.all()) {
                GridDuals x = Grids.made(model);
                Due.is("set(" + bad + ", " + bad + ")", x.set(bad, bad), -1);
                Due.is("sow(" + bad + ", " + bad + ")", x.sow(bad, bad), -1);
                Due.is("gain(" + bad + ", " + bad + ")", x.gain(bad, bad), -1);
                Due.is("between(" + bad + ", " + bad + ")", x.between(bad, bad), -1);
                Due.is("way(" + bad + ", " + bad + ")", x.way(bad, bad), -1);
                Due.is("close(" + bad + ", " + bad + ")", x.close(bad, bad), -1);
                Due.is("weight(4096), too large and without 0", x.weight(4096), -1);
                Due.is("weight(-1), too small and with 11", x.weight(-1), -1);
                Due.is("weight(2048), without 0 and with 11", x.weight(2048), -2);
                Due.is("weight(4094), without 0 and with 11", x.weight(4094), -2);
            }
        }
    }

    private static void goodCrossings() {
        Due.sentence("a crossing is good if it is 0 .. 11");
        for (int k = -70; k <= 70; k++) {
            boolean good = k >= 0 && k <= 11;
            GridDuals x = new GridDuals();
            Due.is("way(" + k + ", " + k + ")", x.way(k, k), good ? 1 : -1);
            Due.is("between(" + k + ", " + k + ")", x.between(k, k), good ? -2 : -1);
            Due.is("leastWith(" + k + ")", x.leastWith(k), !good ? -1 : k == 11 ? -2 : 0);
            Due.is("leastWithout(" + k + ")", x.leastWithout(k), !good ? -1 : k == 0 ? -2 : 0);
        }
    }

    private static void goodStreets() {
        Due.sentence("a street if it is 0 .. 16");
        for (int k = -70; k <= 70; k++) {
            int due = k >= 0 && k <= 16 ? 0 : -1;
            GridDuals x = new GridDuals();
            Due.is("set(" + k + ", 0)", x.set(k, 0), due);
            Due.is("close(" + k + ", 0)", x.close(k, 0), due);
            Due.is("capacity(" + k + ")", x.capacity(k), due);
            Due.is("loss(" + k + ")", x.loss(k), due);
            Due.is("gain(" + k + ", 0)", x.gain(k, 0), due);
        }
    }

    private static List<Row> questions() {
        List<Row> rows = new ArrayList<>();
        rows.add(new Row("flow()", 0, x -> x.flow()));
        rows.add(new Row("firstCut()", 0, x -> x.firstCut()));
        rows.add(new Row("lastCut()", 0, x -> x.lastCut()));
        rows.add(new Row("cutStreets()", 0, x -> x.cutStreets()));
        rows.add(new Row("between(5, 6)", 0, x -> x.between(5, 6)));
        rows.add(new Row("weight(1)", 0, x -> x.weight(1)));
        rows.add(new Row("weight(2047)", 0, x -> x.weight(2047)));
        for (int street = 0; street < 17; street++) {
            int k = street;
            rows.add(new Row("capacity(" + k + ")", 0, x -> x.capacity(k)));
            rows.add(new Row("loss(" + k + ")", 0, x -> x.loss(k)));
            rows.add(new Row("gain(" + k + ", 100)", 0, x -> x.gain(k, 100)));
        }
        for (int crossing = 0; crossing < 11; crossing++) {
            int k = crossing;
            rows.add(new Row("leastWith(" + k + ")", 0, x -> x.leastWith(k)));
            rows.add(new Row("leastWithout(" + (k + 1) + ")", 0, x -> x.leastWithout(k + 1)));
            rows.add(new Row("way(" + k + ", 11)", 0, x -> x.way(k, 11)));
        }
        return rows;
    }

    private static List<Row> refused() {
        List<Row> rows = new ArrayList<>();
        for (int bad : Bad.STREETS) {
            rows.add(new Row("set(" + bad + ", 5)", -1, x -> x.set(bad, 5)));
            rows.add(new Row("set(" + bad + ", 21)", -1, x -> x.set(bad, 21)));
            rows.add(new Row("close(" + bad + ", 1)", -1, x -> x.close(bad, 1)));
            rows.add(new Row("close(" + bad + ", 0)", -1, x -> x.close(bad, 0)));
            rows.add(new Row("capacity(" + bad + ")", -1, x -> x.capacity(bad)));
            rows.add(new Row("loss(" + bad + ")", -1, x -> x.loss(bad)));
            rows.add(new Row("gain(" + bad + ", 5)", -1, x -> x.gain(bad, 5)));
        }
        for (int bad : Bad.CAPACITIES) {
            rows.add(new Row("set(0, " + bad + ")", -2, x -> x.set(0, bad)));
            rows.add(new Row("set(15, " + bad + ")", -2, x -> x.set(15, bad)));
            rows.add(new Row("sow(" + bad + ", 5)", -1, x -> x.sow(bad, 5)));
            rows.add(new Row("sow(5, " + bad + ")", -2, x -> x.sow(5, bad)));
        }
        for (int bad : Bad.AMOUNTS) {
            rows.add(new Row("gain(0, " + bad + ")", -2, x -> x.gain(0, bad)));
            rows.add(new Row("gain(8, " + bad + ")", -2, x -> x.gain(8, bad)));
        }
        for (int bad : Bad.CROSSINGS) {
            rows.add(new Row("between(" + bad + ", 0)", -1, x -> x.between(bad, 0)));
            rows.add(new Row("way(0, " + bad + ")", -1, x -> x.way(0, bad)));
            rows.add(new Row("leastWith(" + bad + ")", -1, x -> x.leastWith(bad)));
            rows.add(new Row("leastWithout(" + bad + ")", -1, x -> x.leastWithout(bad)));
        }
        for (int bad : Bad.CUTS) {
            rows.add(new Row("weight(" + bad + ")", -1, x -> x.weight(bad)));
        }
        rows.add(new Row("weight(2048)", -2, x -> x.weight(2048)));
        rows.add(new Row("weight(2049)", -3, x -> x.weight(2049)));
        rows.add(new Row("leastWith(11)", -2, x -> x.leastWith(11)));
        rows.add(new Row("leastWithout(0)", -2, x -> x.leastWithout(0)));
        rows.add(new Row("between(3, 4)", -2, x -> x.between(3, 4)));
        return rows;
    }
}
