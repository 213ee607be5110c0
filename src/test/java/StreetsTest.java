/** Promises 13 to 16: loss, gain, way, cutStreets. */
public final class StreetsTest {
    public static void main(String[] args) {
        loss();
        lossOfAClosedStreet();
        lossRefusesStreets();
        gain();
        gainOfAClosedStreet();
        gainRefusesStreets();
        gainRefusesAmounts();
        way();
        wayToItself();
        wayRefusesCrossings();
        cutStreets();
        cutStreetsLeavesOut();
        Due.end();
    }

    private static void loss() {
        Due.sentence("13: By how much the greatest value of a flow falls when the street is closed");
        GridDuals x = Grids.made(Grids.alongTheEdge());
        for (int street = 0; street < 17; street++) {
            boolean onTheWay = street < 3 || street == 12 || street == 16;
            Due.is("along the edge: loss(" + street + ")", x.loss(street), onTheWay ? 4 : 0);
            Due.is("no capacity: loss(" + street + ")", new GridDuals().loss(street), 0);
            // Without a street of a corner one way of 20 is left, without any other one still two.
            boolean corner = street == 0 || street == 9 || street == 8 || street == 16;
            Due.is("all at 20: loss(" + street + ")", Grids.made(Grids.allAt20()).loss(street), corner ? 20 : 0);
        }
        // A street whose fall is less than its capacity and more than 0.
        Model model = Grids.narrowMiddle(20);
        model.capacity[9] = 5;
        Due.is("loss(0) with 5 on the other way", Grids.made(model).loss(0), 15);
    }

    private static void lossOfAClosedStreet() {
        Due.sentence("13: 0 if it is closed already");
        GridDuals x = Grids.made(Grids.alongTheEdge());
        x.close(2, 1);
        Due.is("loss(2) closed", x.loss(2), 0);
        Due.is("loss(2) closed, asked again", x.loss(2), 0);
        x.close(2, 0);
        Due.is("loss(2) opened", x.loss(2), 4);
        for (int street = 0; street < 17; street++) {
            Due.is("all closed: loss(" + street + ")", Grids.made(Grids.allClosed()).loss(street), 0);
            Model model = Grids.allAt20();
            model.closed[street] = true;
            Due.is("loss(" + street + ") closed, all at 20", Grids.made(model).loss(street), 0);
        }
    }

    private static void lossRefusesStreets() {
        Due.sentence("13: -1 if it is not good");
        for (Model model : Grids.all()) {
            GridDuals x = Grids.made(model);
            for (int bad : Bad.STREETS) {
                Due.is("loss(" + bad + ")", x.loss(bad), -1);
            }
            Due.holds("loss(0) is no refusal", x.loss(0) >= 0);
            Due.holds("loss(16) is no refusal", x.loss(16) >= 0);
        }
    }

    private static void gain() {
        Due.sentence("14: By how much the greatest value of a flow would rise if the street's capacity were greater by amount");
        GridDuals x = Grids.made(Grids.alongTheEdge());
        Due.is("gain(1, 2), another street as narrow", x.gain(1, 2), 0);
        x.set(12, 20);
        int[] due = {0, 1, 2, 2, 2};
        for (int amount = 0; amount < 5; amount++) {
            Due.is("gain(1, " + amount + ")", x.gain(1, amount), due[amount]);
        }
        Due.is("gain(1, 100)", x.gain(1, 100), 2);
        GridDuals shut = Grids.made(Grids.narrowMiddle(0));
        GridDuals narrow = Grids.made(Grids.narrowMiddle(20));
        for (int amount = 0; amount <= 100; amount++) {
            // The greater capacity may go above 20.
            Due.is("0 in the middle: gain(4, " + amount + ")", shut.gain(4, amount), Math.min(amount, 40));
            Due.is("20 in the middle: gain(4, " + amount + ")", narrow.gain(4, amount), Math.min(amount, 20));
        }
        for (int street = 0; street < 17; street++) {
            Due.is("no capacity: gain(" + street + ", 100)", new GridDuals().gain(street, 100), 0);
            Due.is("all at 20: gain(" + street + ", 100)", Grids.made(Grids.allAt20()).gain(street, 100), 0);
            Due.is("all at 20: gain(" + street + ", 0)", Grids.made(Grids.allAt20()).gain(street, 0), 0);
        }
    }

    private static void gainOfAClosedStreet() {
        Due.sentence("14: 0 if it is closed");
        GridDuals x = Grids.made(Grids.narrowMiddle(20));
        x.close(4, 1);
        for (int amount : new int[] {0, 1, 20, 99, 100}) {
            Due.is("gain(4, " + amount + ") closed", x.gain(4, amount), 0);
        }
        Due.is("gain(4, -1) closed", x.gain(4, -1), -2);
        Due.is("gain(4, 101) closed", x.gain(4, 101), -2);
        x.close(4, 0);
        Due.is("gain(4, 100) opened", x.gain(4, 100), 20);
        for (int street = 0; street < 17; street++) {
            Due.is("all closed: gain(" + street + ", 100)", Grids.made(Grids.allClosed()).gain(street, 100), 0);
            Model model = Grids.allAt20();
            model.closed[street] = true;
            Due.is("gain(" + street + ", 100) closed, all at 20", Grids.made(model).gain(street, 100), 0);
        }
    }

    private static void gainRefusesStreets() {
        Due.sentence("14: -1 if it is not good");
        for (int bad : Bad.STREETS) {
            GridDuals x = Grids.made(Grids.mixed());
            Due.is("gain(" + bad + ", 0)", x.gain(bad, 0), -1);
            Due.is("gain(" + bad + ", 100)", x.gain(bad, 100), -1);
            for (int alsoBad : Bad.AMOUNTS) {
                Due.is("gain(" + bad + ", " + alsoBad + ")", x.gain(bad, alsoBad), -1);
            }
        }
    }

    private static void gainRefusesAmounts() {
        Due.sentence("14: -2 if amount is not in 0 .. 100");
        for (int bad : Bad.AMOUNTS) {
            GridDuals x = Grids.made(Grids.mixed());
            for (int street = 0; street < 17; street++) {
                Due.is("gain(" + street + ", " + bad + ")", x.gain(street, bad), -2);
            }
        }
        GridDuals x = Grids.made(Grids.narrowMiddle(0));
        Due.is("gain(4, 0)", x.gain(4, 0), 0);
        Due.is("gain(4, 100)", x.gain(4, 100), 40);
    }

    private static void way() {
        Due.sentence("15: 1 if there is a way along streets that are not closed and have a capacity greater than 0 from a to b, otherwise 0");
        Model[] joined = {Grids.allAt20(), Grids.ones(Grids.LONGEST_WAY)};
        Model[] parted = {Grids.noCapacity(), Grids.allClosed()};
        for (int a = 0; a < 12; a++) {
            for (int b = 0; b < 12; b++) {
                for (Model model : joined) {
                    Due.is("way(" + a + ", " + b + ") with " + model, Grids.made(model).way(a, b), 1);
                }
                for (Model model : parted) {
                    Due.is("way(" + a + ", " + b + ") with " + model, Grids.made(model).way(a, b), a == b ? 1 : 0);
                }
            }
        }
        for (int street : Grids.LONGEST_WAY) {
            GridDuals x = Grids.made(Grids.ones(Grids.LONGEST_WAY));
            x.close(street, 1);
            Due.is("way(0, 11), street " + street + " closed", x.way(0, 11), 0);
            Due.is("way(11, 0), street " + street + " closed", x.way(11, 0), 0);
            x.close(street, 0);
            Due.is("way(0, 11), street " + street + " opened", x.way(0, 11), 1);
            x.set(street, 0);
            Due.is("way(0, 11), street " + street + " at 0", x.way(0, 11), 0);
        }
        GridDuals x = Grids.made(Grids.alongTheEdge());
        Due.is("along the edge: way(0, 11)", x.way(0, 11), 1);
        Due.is("along the edge: way(7, 1)", x.way(7, 1), 1);
        Due.is("along the edge: way(0, 4)", x.way(0, 4), 0);
        Due.is("along the edge: way(4, 0)", x.way(4, 0), 0);
    }

    private static void wayToItself() {
        Due.sentence("15: 1 for a = b");
        for (Model model : Grids.all()) {
            GridDuals x = Grids.made(model);
            for (int k = 0; k < 12; k++) {
                Due.is("way(" + k + ", " + k + ")", x.way(k, k), 1);
            }
        }
    }

    private static void wayRefusesCrossings() {
        Due.sentence("15: -1 if a or b is not good");
        for (Model model : Grids.all()) {
            GridDuals x = Grids.made(model);
            for (int bad : Bad.CROSSINGS) {
                for (int good : new int[] {0, 5, 11}) {
                    Due.is("way(" + bad + ", " + good + ")", x.way(bad, good), -1);
                    Due.is("way(" + good + ", " + bad + ")", x.way(good, bad), -1);
                }
                Due.is("way(" + bad + ", " + bad + ")", x.way(bad, bad), -1);
            }
        }
    }

    private static void cutStreets() {
        Due.sentence("16: How many streets have their two ends on different sides of the first cut");
        Due.is("all at 20: cutStreets()", Grids.made(Grids.allAt20()).cutStreets(), 2);
        Due.is("along the edge: cutStreets()", Grids.made(Grids.alongTheEdge()).cutStreets(), 1);
        // The streets 0, 1, 2 and 3, 4, 5 and 6, 7, 8 are the rows, 9 .. 12 and 13 .. 16 what joins them.
        Model rows = Grids.allAt20();
        for (int street = 9; street < 13; street++) {
            rows.capacity[street] = 1;
        }
        Due.is("four streets of 1 below the first row: cutStreets()", Grids.made(rows).cutStreets(), 4);
        // The first cut and the last cut, {0} and all but 11, have one street and two.
        Model sides = Grids.allAt20();
        sides.capacity[0] = 0;
        sides.capacity[8] = 10;
        sides.capacity[16] = 10;
        Due.is("one street at the first cut, two at the last: cutStreets()", Grids.made(sides).cutStreets(), 1);
        for (Model model : Grids.all()) {
            Due.is("cutStreets() with " + model, Grids.made(model).cutStreets(), model.cutStreets());
        }
    }

    private static void cutStreetsLeavesOut() {
        Due.sentence("16: and are not closed and have a capacity greater than 0");
        Due.is("no capacity: cutStreets()", Grids.made(Grids.noCapacity()).cutStreets(), 0);
        Due.is("all closed: cutStreets()", Grids.made(Grids.allClosed()).cutStreets(), 0);
        GridDuals x = Grids.made(Grids.allAt20());
        x.close(0, 1);
        Due.is("street 0 closed: cutStreets()", x.cutStreets(), 1);
        x.close(9, 1);
        Due.is("streets 0 and 9 closed: cutStreets()", x.cutStreets(), 0);
        x.close(0, 0);
        x.close(9, 0);
        Due.is("both opened: cutStreets()", x.cutStreets(), 2);
        x.set(9, 0);
        Due.is("street 9 at 0: cutStreets()", x.cutStreets(), 1);
        x.set(9, 1);
        Due.is("street 9 at 1: cutStreets()", x.cutStreets(), 2);
    }
}
