/** Promises 9 and 10: the senses of atoms and of bonds by the atoms' own numbers. */
public final class SenseTest {
    private static final int C = 0;
    private static final int N = 1;
    private static final int O = 2;
    private static final int F = 3;

    public static void main(String[] args) {
        threeNeighbours();
        fourNeighbours();
        neighboursByNumber();
        noCentres();
        farPlaces();
        noSuchAtom();
        oneNeighbourEach();
        twoNeighboursAtAnEnd();
        hingeElements();
        noHinges();
        ringsAndPlaces();
        noSuchBond();
        Check.end();
    }

    /** The points' only z is that of the first neighbour; the others turn from left to right. */
    private static void threeNeighbours() {
        Check.part("promise 9, three neighbours");
        StereoForms x = draw(C, 0, 0, F, 100, 0, F, -50, 80, F, -50, -80);
        x.bond(0, 1, 1, 1);
        x.bond(0, 2, 1, 0);
        Check.due("two bonds", x.sense(0), 1);
        x.bond(0, 3, 1, 0);
        Check.due("a wedge at the first", x.sense(0), 6);
        Check.due("a neighbour", x.sense(1), 1);
        x.mark(0, 2, 0);
        Check.due("a hash at the first", x.sense(0), 4);
        x.mark(0, 1, 1);
        Check.due("a wedge with the narrow end elsewhere", x.sense(0), 5);
        x.mark(0, 2, 1);
        Check.due("a hash with the narrow end elsewhere", x.sense(0), 5);
        x.mark(0, 0, 0);
        Check.due("no mark", x.sense(0), 5);
        x.mark(1, 1, 0);
        Check.due("a wedge at the second", x.sense(0), 6);
        x.mark(2, 2, 0);
        // (100,0,0) (-50,80,1) (-50,-80,-1): 100 (80 * -1 - 1 * -80) = 0
        Check.due("a wedge and a hash that are even", x.sense(0), 5);
        x.move(3, -50, -90);
        // 100 (80 * -1 - 1 * -90) = 1000
        Check.due("a wedge and a hash that are not", x.sense(0), 6);
        x.move(3, -50, -70);
        Check.due("nor here", x.sense(0), 4);
    }

    private static void fourNeighbours() {
        Check.part("promise 9, four neighbours");
        StereoForms x = draw(C, 0, 0, F, 100, 0, F, 0, 100, F, -100, 0, F, 0, -100);
        for (int b = 1; b <= 4; b++) {
            x.bond(0, b, 1, 0);
        }
        Check.due("flat", x.sense(0), 5);
        x.mark(0, 1, 0);
        Check.due("a wedge at the first", x.sense(0), 6);
        x.mark(0, 0, 0);
        x.mark(3, 1, 0);
        Check.due("a wedge at the fourth", x.sense(0), 4);
        x.mark(3, 2, 0);
        Check.due("a hash at the fourth", x.sense(0), 6);
        x.mark(3, 0, 0);
        x.mark(0, 1, 0);
        x.mark(2, 1, 0);
        Check.due("wedges at the first and third", x.sense(0), 6);
        x.mark(1, 1, 0);
        x.mark(3, 1, 0);
        Check.due("four wedges are flat", x.sense(0), 5);
        x.mark(1, 2, 0);
        x.mark(3, 2, 0);
        Check.due("wedges and hashes in turn", x.sense(0), 6);
        x.mark(3, 2, 4);
        // 100 (200 * 1 - -1 * 100) - 100 (0 - -1 * -100) + 1 (0 - 200 * -100) > 0, the fourth at z 0
        Check.due("the fourth's narrow end elsewhere", x.sense(0), 6);
    }

    private static void neighboursByNumber() {
        Check.part("promise 9, the order of the neighbours");
        StereoForms x = draw(F, 100, 0, F, -50, 80, C, 0, 0, F, -50, -80);
        x.bond(3, 2, 1, 0);
        x.bond(1, 2, 1, 0);
        x.bond(2, 0, 1, 1);
        Check.due("not that of the bonds", x.sense(2), 6);
        StereoForms y = draw(F, -50, 80, F, 100, 0, C, 0, 0, F, -50, -80);
        y.bond(2, 1, 1, 1);
        y.bond(2, 0, 1, 0);
        y.bond(2, 3, 1, 0);
        Check.due("two neighbours with their numbers changed", y.sense(2), 4);
    }

    private static void noCentres() {
        Check.part("promise 9, no centres");
        StereoForms x = draw(N, 0, 0, F, 100, 0, F, -50, 80, F, -50, -80);
        x.bond(0, 1, 1, 1);
        x.bond(0, 2, 1, 0);
        x.bond(0, 3, 1, 0);
        Check.due("a nitrogen with three", x.sense(0), 1);
        StereoForms y = draw(C, 0, 0, F, 100, 0, F, -50, 80, C, -50, -80);
        y.bond(0, 1, 1, 1);
        y.bond(0, 2, 1, 0);
        y.bond(0, 3, 2, 0);
        Check.due("a carbon with a double bond", y.sense(0), 1);
        Check.due("one with a double bond alone", y.sense(3), 1);
        Check.due("alone", draw(C, 0, 0).sense(0), 1);
    }

    private static void farPlaces() {
        Check.part("promise 9, places far apart");
        StereoForms x = draw(C, 0, 0, F, 1000, 1000, F, -1000, 1000, F, -1000, -1000, F, 1000, -1000);
        x.bond(0, 1, 1, 1);
        x.bond(0, 2, 1, 2);
        x.bond(0, 3, 1, 1);
        x.bond(0, 4, 1, 2);
        Check.due("the greatest determinant", x.sense(0), 6);
        x.flip();
        Check.due("the least", x.sense(0), 4);
    }

    private static void noSuchAtom() {
        Check.part("promise 9, BAD");
        StereoForms x = draw(C, 0, 0);
        Check.due("sense(-1)", x.sense(-1), StereoForms.BAD);
        Check.due("sense(1)", x.sense(1), StereoForms.BAD);
        Check.due("sense(MIN)", x.sense(Integer.MIN_VALUE), StereoForms.BAD);
        Check.due("sense(MAX)", x.sense(Integer.MAX_VALUE), StereoForms.BAD);
    }

    private static void oneNeighbourEach() {
        Check.part("promise 10, one neighbour each");
        StereoForms x = difluoroethene(C, C, 2);
        Check.due("on one side", x.turn(0), 6);
        Check.due("a bond of order 1", x.turn(1), 1);
        x.move(3, 150, -80);
        Check.due("on two sides", x.turn(0), 4);
        x.move(2, -50, -80);
        Check.due("on the other side", x.turn(0), 6);
        x.move(3, 150, 0);
        Check.due("on the line", x.turn(0), 5);
        x.move(3, 150, 1);
        Check.due("just off it", x.turn(0), 4);
        x.move(2, 100, 0);
        Check.due("at the other end's place", x.turn(0), 5);
        x.mark(0, 1, 1);
        x.move(2, -1000, 1000);
        x.move(3, 1000, 1000);
        Check.due("marks and first atoms are all one", x.turn(0), 6);
    }

    private static void twoNeighboursAtAnEnd() {
        Check.part("promise 10, two neighbours at an end");
        StereoForms x = difluoroethene(C, C, 2);
        x.atom(4, -50, -80);
        x.atom(4, 150, -80);
        x.bond(0, 4, 1, 0);
        Check.due("the least is on the same side", x.turn(0), 6);
        x.bond(1, 5, 1, 0);
        Check.due("at both ends", x.turn(0), 6);
        x.move(2, -50, -70);
        Check.due("two on the same side", x.turn(0), 5);
        x.move(4, -50, 80);
        Check.due("they have changed sides", x.turn(0), 4);
        x.move(5, 150, 0);
        Check.due("the greater number is on the line", x.turn(0), 5);
        x.move(5, 150, 80);
        Check.due("two on the same side of the other end", x.turn(0), 5);
        StereoForms y = draw(F, -50, 80, C, 100, 0, F, 150, 80, C, 0, 0, F, -50, -80);
        y.bond(3, 4, 1, 0);
        y.bond(1, 3, 2, 0);
        y.bond(2, 1, 1, 0);
        y.bond(3, 0, 1, 0);
        Check.due("the least number, not the first bond", y.turn(1), 6);
    }

    private static void hingeElements() {
        Check.part("promise 10, elements");
        Check.due("C=N", difluoroethene(C, N, 2).turn(0), 6);
        Check.due("N=C", difluoroethene(N, C, 2).turn(0), 6);
        Check.due("N=N", difluoroethene(N, N, 2).turn(0), 6);
        Check.due("C-C", difluoroethene(C, C, 1).turn(0), 1);
        Check.due("C#C", difluoroethene(C, C, 3).turn(0), 1);
        StereoForms x = draw(C, 0, 0, O, 100, 0, F, -50, 80);
        x.bond(0, 1, 2, 0);
        x.bond(0, 2, 1, 0);
        Check.due("C=O", x.turn(0), 1);
    }

    private static void noHinges() {
        Check.part("promise 10, no hinges");
        StereoForms x = draw(C, 0, 0, C, 100, 0, F, -50, 80);
        x.bond(0, 1, 2, 0);
        Check.due("two bare ends", x.turn(0), 1);
        x.bond(0, 2, 1, 0);
        Check.due("one bare end", x.turn(0), 1);
        StereoForms y = draw(C, 0, 0, C, 100, 10, C, 200, 0, F, -50, 80, F, 250, 80);
        y.bond(0, 1, 2, 0);
        y.bond(1, 2, 2, 0);
        y.bond(0, 3, 1, 0);
        y.bond(2, 4, 1, 0);
        Check.due("another double bond behind", y.turn(0), 1);
        Check.due("another double bond before", y.turn(1), 1);
    }

    private static void ringsAndPlaces() {
        Check.part("promise 10, rings and places");
        StereoForms x = draw(C, 0, 0, C, 100, 0, C, 50, 80);
        x.bond(0, 1, 2, 0);
        x.bond(1, 2, 1, 0);
        x.bond(2, 0, 1, 0);
        Check.due("one neighbour of both ends", x.turn(0), 6);
        x.move(2, 50, 0);
        Check.due("on the line", x.turn(0), 5);
        StereoForms y = difluoroethene(C, C, 2);
        y.move(1, 0, 0);
        Check.due("both ends at one place", y.turn(0), 5);
        StereoForms z = draw(C, 0, -1000, C, 0, 1000, F, -1000, -1000, F, 1000, 1000);
        z.bond(1, 0, 2, 0);
        z.bond(0, 2, 1, 0);
        z.bond(1, 3, 1, 0);
        Check.due("upright, drawn from the greater number", z.turn(0), 4);
    }

    private static void noSuchBond() {
        Check.part("promise 10, BAD");
        StereoForms x = difluoroethene(C, C, 2);
        Check.due("turn(-1)", x.turn(-1), StereoForms.BAD);
        Check.due("turn(3)", x.turn(3), StereoForms.BAD);
        Check.due("turn(MIN)", x.turn(Integer.MIN_VALUE), StereoForms.BAD);
        Check.due("turn(MAX)", x.turn(Integer.MAX_VALUE), StereoForms.BAD);
    }

    /** Two atoms on a line with bond 0 between them, and a fluorine at each, above the line. */
    private static StereoForms difluoroethene(int left, int right, int order) {
        StereoForms x = draw(left, 0, 0, right, 100, 0, F, -50, 80, F, 150, 80);
        x.bond(0, 1, order, 0);
        x.bond(2, 0, 1, 0);
        x.bond(1, 3, 1, 0);
        return x;
    }

    private static StereoForms draw(int... atoms) {
        StereoForms x = new StereoForms();
        for (int k = 0; k + 2 < atoms.length; k += 3) {
            x.atom(atoms[k], atoms[k + 1], atoms[k + 2]);
        }
        return x;
    }
}
