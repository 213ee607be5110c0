/** Promises 1 to 6: a new object, set, sow, close, capacity, between. */
public final class StateTest {
    public static void main(String[] args) {
        newObject();
        setAnswersTheOneBefore();
        setRefusesStreets();
        setRefusesCapacities();
        sowSetsAll();
        sowWrapsAt21();
        sowRefusesSeeds();
        sowRefusesBends();
        sowAnswersTheSum();
        closeAndOpen();
        closeRefusesStreets();
        closeAnswersBefore();
        capacityClosedOrNot();
        capacityRefusesStreets();
        betweenNeighbours();
        betweenRefusesCrossings();
        betweenNoNeighbours();
        Due.end();
    }

    private static void newObject() {
        Due.sentence("1: All capacities are 0");
        GridDuals x = new GridDuals();
        Grids.sameState("making it", x, Grids.noCapacity());
        GridDuals other = new GridDuals();
        x.sow(20, 20);
        x.close(4, 1);
        Grids.sameState("a change of another object", other, Grids.noCapacity());
        Grids.sameState("a change of other objects", new GridDuals(), Grids.noCapacity());
    }

    private static void setAnswersTheOneBefore() {
        Due.sentence("2: Sets a capacity; otherwise answers the one before");
        GridDuals x = new GridDuals();
        Model model = Grids.noCapacity();
        for (int street = 0; street < 17; street++) {
            model.capacity[street] = street + 3;
            Due.is("first set(" + street + ", ..)", x.set(street, street + 3), 0);
        }
        Grids.sameState("set on all streets", x, model);
        for (int street : new int[] {0, 8, 9, 16}) {
            Due.is("set(" + street + ", 0)", x.set(street, 0), street + 3);
            Due.is("set(" + street + ", 20) after 0", x.set(street, 20), 0);
            Due.is("set(" + street + ", 20) again", x.set(street, 20), 20);
            Due.is("set(" + street + ", 0) after 20", x.set(street, 0), 20);
            Due.is("set(" + street + ", 0) again", x.set(street, 0), 0);
            x.set(street, 7);
            x.close(street, 1);
            Due.is("set(" + street + ", 8) closed", x.set(street, 8), 7);
            Due.is("set(" + street + ", 9) closed", x.set(street, 9), 8);
            Due.is("still closed after set", x.close(street, 0), 1);
            Due.is("set(" + street + ", 9) opened", x.set(street, 9), 9);
            model.capacity[street] = 9;
        }
        Grids.sameState("set on some streets", x, model);
    }

    private static void setRefusesStreets() {
        Due.sentence("2: -1 if street is not good");
        for (int bad : Bad.STREETS) {
            GridDuals x = Grids.made(Grids.mixed());
            Due.is("set(" + bad + ", 0)", x.set(bad, 0), -1);
            Due.is("set(" + bad + ", 20)", x.set(bad, 20), -1);
            for (int alsoBad : Bad.CAPACITIES) {
                Due.is("set(" + bad + ", " + alsoBad + ")", x.set(bad, alsoBad), -1);
            }
            Grids.sameState("set(" + bad + ", ..)", x, Grids.mixed());
        }
        Due.is("set(0, 1)", new GridDuals().set(0, 1), 0);
        Due.is("set(16, 1)", new GridDuals().set(16, 1), 0);
    }

    private static void setRefusesCapacities() {
        Due.sentence("2: -2 if capacity is not in 0 .. 20");
        for (int bad : Bad.CAPACITIES) {
            GridDuals x = Grids.made(Grids.mixed());
            for (int street = 0; street < 17; street++) {
                Due.is("set(" + street + ", " + bad + ")", x.set(street, bad), -2);
            }
            Grids.sameState("set(.., " + bad + ")", x, Grids.mixed());
        }
        GridDuals x = new GridDuals();
        Due.is("set(3, 20)", x.set(3, 20), 0);
        Due.is("set(3, 0)", x.set(3, 0), 20);
    }

    private static void sowSetsAll() {
        Due.sentence("3: Sets all capacities: street k gets (seed + 7 * k + k * k * bend) modulo 21");
        for (int seed = 0; seed <= 20; seed++) {
            for (int bend = 0; bend <= 20; bend++) {
                Model model = Grids.mixed();
                GridDuals x = Grids.made(model);
                x.sow(seed, bend);
                for (int k = 0; k < 17; k++) {
                    model.capacity[k] = (seed + 7 * k + k * k * bend) % 21;
                }
                Grids.sameState("sow(" + seed + ", " + bend + ")", x, model);
            }
        }
    }

    private static void sowWrapsAt21() {
        Due.sentence("3: modulo 21");
        GridDuals x = new GridDuals();
        x.sow(13, 0);
        Due.is("13 + 7 modulo 21", x.capacity(1), 20);
        x.sow(14, 0);
        Due.is("14 + 7 modulo 21", x.capacity(1), 0);
        x.sow(15, 0);
        Due.is("15 + 7 modulo 21", x.capacity(1), 1);
        x.sow(0, 0);
        Due.is("the least of all, 0", x.capacity(0), 0);
        x.sow(20, 20);
        Due.is("20 modulo 21", x.capacity(0), 20);
        Due.is("the greatest of all, 20 + 112 + 5120 modulo 21", x.capacity(16), 2);
    }

    private static void sowRefusesSeeds() {
        Due.sentence("3: -1 if seed is not in 0 .. 20");
        for (int bad : Bad.CAPACITIES) {
            GridDuals x = Grids.made(Grids.mixed());
            Due.is("sow(" + bad + ", 0)", x.sow(bad, 0), -1);
            Due.is("sow(" + bad + ", 20)", x.sow(bad, 20), -1);
            for (int alsoBad : Bad.CAPACITIES) {
                Due.is("sow(" + bad + ", " + alsoBad + ")", x.sow(bad, alsoBad), -1);
            }
            Grids.sameState("sow(" + bad + ", ..)", x, Grids.mixed());
        }
    }

    private static void sowRefusesBends() {
        Due.sentence("3: -2 if bend is not in 0 .. 20");
        for (int bad : Bad.CAPACITIES) {
            GridDuals x = Grids.made(Grids.mixed());
            Due.is("sow(0, " + bad + ")", x.sow(0, bad), -2);
            Due.is("sow(20, " + bad + ")", x.sow(20, bad), -2);
            Grids.sameState("sow(.., " + bad + ")", x, Grids.mixed());
        }
    }

    private static void sowAnswersTheSum() {
        Due.sentence("3: otherwise answers their sum");
        for (int seed = 0; seed <= 20; seed++) {
            for (int bend = 0; bend <= 20; bend++) {
                GridDuals x = new GridDuals();
                int sum = x.sow(seed, bend);
                for (int k = 0; k < 17; k++) {
                    sum -= x.capacity(k);
                }
                Due.is("sow(" + seed + ", " + bend + ") less all capacities", sum, 0);
            }
        }
        GridDuals x = Grids.made(Grids.allClosed());
        // Six streets at 0, six at 7 and five at 14.
        Due.is("sow(0, 0) with every street closed", x.sow(0, 0), 112);
        Due.is("sow(20, 20) with every street closed", x.sow(20, 20), 153);
        Due.is("sow(20, 20) again", x.sow(20, 20), 153);
        Due.is("sow(0, 20)", new GridDuals().sow(0, 20), sum(0, 20));
        Due.is("sow(20, 0)", new GridDuals().sow(20, 0), sum(20, 0));
    }

    private static int sum(int seed, int bend) {
        int sum = 0;
        for (int k = 0; k < 17; k++) {
            sum += (seed + 7 * k + k * k * bend) % 21;
        }
        return sum;
    }

    private static void closeAndOpen() {
        Due.sentence("4: Closes a street (flag not 0) or opens it (flag 0)");
        int[] notZero = {1, -1, 2, -2, 256, 65536, 1 << 30, Integer.MIN_VALUE, Integer.MAX_VALUE};
        for (int flag : notZero) {
            Model model = Grids.allAt20();
            GridDuals x = Grids.made(model);
            for (int street : new int[] {0, 8, 9, 16}) {
                x.close(street, flag);
                model.closed[street] = true;
            }
            Grids.sameAnswers("close(.., " + flag + ")", x, model);
            Grids.sameState("close(.., " + flag + ")", x, model);
        }
        GridDuals x = Grids.made(Grids.allClosed());
        for (int street = 0; street < 17; street++) {
            x.close(street, 0);
        }
        Grids.sameAnswers("opening all", x, Grids.allAt20());
        Grids.sameState("opening all", x, Grids.allAt20());
    }

    private static void closeRefusesStreets() {
        Due.sentence("4: -1 if street is not good");
        for (int bad : Bad.STREETS) {
            GridDuals x = Grids.made(Grids.mixed());
            for (int flag : new int[] {0, 1, -1, Integer.MIN_VALUE, Integer.MAX_VALUE}) {
                Due.is("close(" + bad + ", " + flag + ")", x.close(bad, flag), -1);
            }
            Grids.sameState("close(" + bad + ", ..)", x, Grids.mixed());
        }
    }

    private static void closeAnswersBefore() {
        Due.sentence("4: otherwise 1 if it was closed before, else 0");
        GridDuals x = new GridDuals();
        for (int street = 0; street < 17; street++) {
            Due.is("close(" + street + ", 0), open at first", x.close(street, 0), 0);
            Due.is("close(" + street + ", 1), open before", x.close(street, 1), 0);
            Due.is("close(" + street + ", 1), closed before", x.close(street, 1), 1);
            Due.is("close(" + street + ", -5), closed before", x.close(street, -5), 1);
            Due.is("close(" + street + ", 0), closed before", x.close(street, 0), 1);
            Due.is("close(" + street + ", 0), open before", x.close(street, 0), 0);
            Due.is("close(" + street + ", least int)", x.close(street, Integer.MIN_VALUE), 0);
            Due.is("close(" + street + ", 2)", x.close(street, 2), 1);
        }
    }

    private static void capacityClosedOrNot() {
        Due.sentence("5: The capacity of a street, closed or not");
        GridDuals x = new GridDuals();
        for (int street = 0; street < 17; street++) {
            x.set(street, 20 - street);
            Due.is("capacity(" + street + ")", x.capacity(street), 20 - street);
            x.close(street, 1);
            Due.is("capacity(" + street + ") closed", x.capacity(street), 20 - street);
            x.set(street, street);
            Due.is("capacity(" + street + ") set while closed", x.capacity(street), street);
            x.close(street, 0);
            Due.is("capacity(" + street + ") opened", x.capacity(street), street);
        }
    }

    private static void capacityRefusesStreets() {
        Due.sentence("5: -1 if it is not good");
        GridDuals x = Grids.made(Grids.allAt20());
        for (int bad : Bad.STREETS) {
            Due.is("capacity(" + bad + ")", x.capacity(bad), -1);
        }
        Due.is("capacity(0)", x.capacity(0), 20);
        Due.is("capacity(16)", x.capacity(16), 20);
    }

    private static void betweenNeighbours() {
        Due.sentence("6: The street between two crossings");
        GridDuals x = new GridDuals();
        for (int a = 0; a < 12; a++) {
            for (int b = 0; b < 12; b++) {
                Due.is("between(" + a + ", " + b + ")", x.between(a, b), Model.street(a, b));
            }
        }
        Due.is("between(0, 1)", x.between(0, 1), 0);
        Due.is("between(11, 10)", x.between(11, 10), 8);
        Due.is("between(4, 0)", x.between(4, 0), 9);
        Due.is("between(7, 11)", x.between(7, 11), 16);
        Due.is("between(7, 11), all closed", Grids.made(Grids.allClosed()).between(7, 11), 16);
    }

    private static void betweenRefusesCrossings() {
        Due.sentence("6: -1 if a or b is not good");
        GridDuals x = new GridDuals();
        for (int bad : Bad.CROSSINGS) {
            for (int good : new int[] {0, 1, 4, 7, 8, 11}) {
                Due.is("between(" + bad + ", " + good + ")", x.between(bad, good), -1);
                Due.is("between(" + good + ", " + bad + ")", x.between(good, bad), -1);
            }
            Due.is("between(" + bad + ", " + bad + ")", x.between(bad, bad), -1);
        }
        Due.is("between(11, 15), one below the last row", x.between(11, 15), -1);
        Due.is("between(-4, 0), one above the first row", x.between(-4, 0), -1);
        Due.is("between(32, 33)", x.between(32, 33), -1);
    }

    private static void betweenNoNeighbours() {
        Due.sentence("6: -2 if they are no neighbours");
        GridDuals x = new GridDuals();
        for (int k = 0; k < 12; k++) {
            Due.is("between(" + k + ", " + k + ")", x.between(k, k), -2);
        }
        int[][] apart = {{3, 4}, {4, 3}, {7, 8}, {8, 7}, {0, 3}, {8, 11}, {0, 8}, {3, 11}, {0, 5}, {1, 4}, {0, 2}, {0, 11}, {11, 0}};
        for (int[] pair : apart) {
            Due.is("between(" + pair[0] + ", " + pair[1] + ")", x.between(pair[0], pair[1]), -2);
        }
    }
}
