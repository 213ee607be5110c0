/** Promises 7 to 12: flow, weight, firstCut, lastCut, leastWith, leastWithout. */
public final class CutsTest {
    public static void main(String[] args) {
        flow();
        weightOfACut();
        weightRefusesNumbers();
        weightRefusesWithout0();
        weightRefusesWith11();
        firstCut();
        lastCut();
        leastWith();
        leastWithRefusesCrossings();
        leastWithRefuses11();
        leastWithout();
        leastWithoutRefusesCrossings();
        leastWithoutRefuses0();
        Due.end();
    }

    private static void flow() {
        Due.sentence("7: The greatest value of a flow");
        Due.is("no capacity: flow()", Grids.made(Grids.noCapacity()).flow(), 0);
        Due.is("all at 20: flow()", Grids.made(Grids.allAt20()).flow(), 40);
        Due.is("all closed: flow()", Grids.made(Grids.allClosed()).flow(), 0);
        Due.is("along the edge: flow()", Grids.made(Grids.alongTheEdge()).flow(), 4);
        Due.is("the longest way: flow()", Grids.made(Grids.ones(Grids.LONGEST_WAY)).flow(), 1);
        Due.is("narrow middle: flow()", Grids.made(Grids.narrowMiddle(20)).flow(), 20);
        Due.is("shut middle: flow()", Grids.made(Grids.narrowMiddle(0)).flow(), 0);
        Due.is("mixed: flow()", Grids.made(Grids.mixed()).flow(), 5);
    }

    private static void weightOfACut() {
        Due.sentence("8: The weight of a cut");
        GridDuals x = Grids.made(Grids.alongTheEdge());
        Due.is("weight(1), the least cut", x.weight(1), 9);
        Due.is("weight(3)", x.weight(3), 4);
        Due.is("weight(5)", x.weight(5), 21);
        Due.is("weight(2045)", x.weight(2045), 19);
        Due.is("weight(2047), the greatest cut", x.weight(2047), 6);
        x.close(0, 1);
        Due.is("weight(1) with street 0 closed", x.weight(1), 0);
        Due.is("weight(5) with street 0 closed", x.weight(5), 12);
        for (int cut = 1; cut < 2048; cut += 2) {
            Due.is("no capacity: weight(" + cut + ")", Grids.made(Grids.noCapacity()).weight(cut), 0);
            Due.is("all closed: weight(" + cut + ")", Grids.made(Grids.allClosed()).weight(cut), 0);
        }
        GridDuals y = Grids.made(Grids.allAt20());
        Due.is("all at 20: weight(1)", y.weight(1), 40);
        Due.is("all at 20: weight(2047)", y.weight(2047), 40);
        Due.is("all at 20: the greatest weight", y.weight(Grids.DARK_SQUARES), 340);
    }

    private static void weightRefusesNumbers() {
        Due.sentence("8: -1 if cut is not in 0 .. 4095");
        for (Model model : Grids.all()) {
            GridDuals x = Grids.made(model);
            for (int bad : Bad.CUTS) {
                Due.is("weight(" + bad + ")", x.weight(bad), -1);
            }
            Due.is("weight(0), the first in 0 .. 4095", x.weight(0), -2);
            Due.is("weight(4095), the last in 0 .. 4095", x.weight(4095), -3);
        }
    }

    private static void weightRefusesWithout0() {
        Due.sentence("8: -2 if it has not crossing 0");
        for (Model model : Grids.all()) {
            GridDuals x = Grids.made(model);
            for (int cut : new int[] {0, 2, 1024, 2046, 2048, 2050, 3072, 4094}) {
                Due.is("weight(" + cut + ")", x.weight(cut), -2);
            }
        }
    }

    private static void weightRefusesWith11() {
        Due.sentence("8: -3 if it has crossing 11");
        for (Model model : Grids.all()) {
            GridDuals x = Grids.made(model);
            for (int cut : new int[] {2049, 2051, 3073, 4093, 4095}) {
                Due.is("weight(" + cut + ")", x.weight(cut), -3);
            }
            Due.holds("weight(2047) is no refusal", x.weight(2047) >= 0);
        }
    }

    private static void firstCut() {
        Due.sentence("9: The first cut");
        Due.is("no capacity: firstCut()", Grids.made(Grids.noCapacity()).firstCut(), 1);
        Due.is("all at 20: firstCut()", Grids.made(Grids.allAt20()).firstCut(), 1);
        Due.is("all closed: firstCut()", Grids.made(Grids.allClosed()).firstCut(), 1);
        Due.is("the longest way: firstCut()", Grids.made(Grids.ones(Grids.LONGEST_WAY)).firstCut(), 1);
        Due.is("narrow middle: firstCut()", Grids.made(Grids.narrowMiddle(20)).firstCut(), 1 + 2 + 16 + 32);
        GridDuals x = Grids.made(Grids.alongTheEdge());
        Due.is("along the edge: firstCut()", x.firstCut(), 3);
        x.close(2, 1);
        Due.is("along the edge, street 2 closed: firstCut()", x.firstCut(), 7);
        Model only11 = Grids.allAt20();
        only11.capacity[8] = 19;
        Due.is("all but crossing 11: firstCut()", Grids.made(only11).firstCut(), 2047);
    }

    private static void lastCut() {
        Due.sentence("10: The last cut");
        Due.is("no capacity: lastCut()", Grids.made(Grids.noCapacity()).lastCut(), 2047);
        Due.is("all at 20: lastCut()", Grids.made(Grids.allAt20()).lastCut(), 2047);
        Due.is("all closed: lastCut()", Grids.made(Grids.allClosed()).lastCut(), 2047);
        Due.is("the longest way: lastCut()", Grids.made(Grids.ones(Grids.LONGEST_WAY)).lastCut(), 2047);
        Due.is("narrow middle: lastCut()", Grids.made(Grids.narrowMiddle(20)).lastCut(), 2047 - 64 - 128 - 1024);
        GridDuals x = Grids.made(Grids.alongTheEdge());
        Due.is("along the edge: lastCut()", x.lastCut(), 2047 - 128);
        x.close(2, 1);
        Due.is("along the edge, street 2 closed: lastCut()", x.lastCut(), 2047 - 128 - 8);
        Model only0 = Grids.allAt20();
        only0.capacity[0] = 19;
        Due.is("crossing 0 alone: lastCut()", Grids.made(only0).lastCut(), 1);
    }

    private static void leastWith() {
        Due.sentence("11: The least weight of a cut that has the crossing");
        GridDuals x = Grids.made(Grids.alongTheEdge());
        Due.is("leastWith(0), any cut", x.leastWith(0), 4);
        Due.is("leastWith(3)", x.leastWith(3), 4);
        Due.is("leastWith(7)", x.leastWith(7), 6);
        Due.is("leastWith(10), the last good one", x.leastWith(10), 4);
        for (int k = 0; k < 11; k++) {
            Due.is("no capacity: leastWith(" + k + ")", Grids.made(Grids.noCapacity()).leastWith(k), 0);
            Due.is("all at 20: leastWith(" + k + ")", Grids.made(Grids.allAt20()).leastWith(k), 40);
            Due.is("all closed: leastWith(" + k + ")", Grids.made(Grids.allClosed()).leastWith(k), 0);
        }
        for (Model model : Grids.all()) {
            Due.is("leastWith(0) with " + model, Grids.made(model).leastWith(0), model.flow());
        }
    }

    private static void leastWithRefusesCrossings() {
        Due.sentence("11: -1 if k is not good");
        for (Model model : Grids.all()) {
            GridDuals x = Grids.made(model);
            for (int bad : Bad.CROSSINGS) {
                Due.is("leastWith(" + bad + ")", x.leastWith(bad), -1);
            }
        }
    }

    private static void leastWithRefuses11() {
        Due.sentence("11: -2 if it is crossing 11");
        for (Model model : Grids.all()) {
            Due.is("leastWith(11)", Grids.made(model).leastWith(11), -2);
        }
    }

    private static void leastWithout() {
        Due.sentence("12: The least weight of a cut that has not the crossing");
        GridDuals x = Grids.made(Grids.alongTheEdge());
        Due.is("leastWithout(1), the first good one", x.leastWithout(1), 9);
        Due.is("leastWithout(2)", x.leastWithout(2), 4);
        Due.is("leastWithout(4)", x.leastWithout(4), 4);
        Due.is("leastWithout(11), any cut", x.leastWithout(11), 4);
        for (int k = 1; k < 12; k++) {
            Due.is("no capacity: leastWithout(" + k + ")", Grids.made(Grids.noCapacity()).leastWithout(k), 0);
            Due.is("all at 20: leastWithout(" + k + ")", Grids.made(Grids.allAt20()).leastWithout(k), 40);
            Due.is("all closed: leastWithout(" + k + ")", Grids.made(Grids.allClosed()).leastWithout(k), 0);
        }
        for (Model model : Grids.all()) {
            Due.is("leastWithout(11) with " + model, Grids.made(model).leastWithout(11), model.flow());
        }
    }

    private static void leastWithoutRefusesCrossings() {
        Due.sentence("12: -1 if k is not good");
        for (Model model : Grids.all()) {
            GridDuals x = Grids.made(model);
            for (int bad : Bad.CROSSINGS) {
                Due.is("leastWithout(" + bad + ")", x.leastWithout(bad), -1);
            }
        }
    }

    private static void leastWithoutRefuses0() {
        Due.sentence("12: -2 if it is crossing 0");
        for (Model model : Grids.all()) {
            Due.is("leastWithout(0)", Grids.made(model).leastWithout(0), -2);
        }
    }
}
