/**
 * The edges of 'Terms': what is at most and at least, what just is and just isn't a centre, a hinge
 * or a side. Each part is named by the document's words.
 */
public final class TermsEdgeTest {
    private static final int BAD = StereoForms.BAD;
    private static final int FULL = StereoForms.FULL;
    private static final int VALENCE = StereoForms.VALENCE;
    private static final int HEAD = 65536;
    private static final int C = Sketch.C;
    private static final int N = Sketch.N;
    private static final int O = Sketch.O;
    private static final int F = Sketch.F;
    private static final int CL = Sketch.CL;
    private static final int S = Sketch.S;

    public static void main(String[] args) {
        atMostSevenAtoms();
        numberedAsTheyCame();
        atMostNineBonds();
        atMostOneBetweenTheSame();
        narrowEndAtFirst();
        valencesOfSingleBonds();
        valencesOfOrders();
        hydrogensLeft();
        threeOrFourBonds();
        allOfOrderOne();
        carbonAlone();
        wedgeOrElseZero();
        signOfThree();
        signOfFour();
        farthestPlaces();
        oneBondMoreOrTwo();
        carbonOrNitrogen();
        orderTwo();
        allTheseOfOrderOne();
        sideZero();
        twoOnTheSameSide();
        farthestSides();
        othersHaveSenseZero();
        rowsFirstAndLast();
        rowsOfElements();
        sensesFromZeroOn();
        sensesOfMostHinges();
        noAtoms();
        digitsOfTheText();
        orderInTheText();
        Check.end();
    }

    private static void atMostSevenAtoms() {
        Check.part("at most 7 atoms");
        StereoForms x = new StereoForms();
        for (int a = 0; a < 7; a++) {
            Check.due("row(" + a + ") before", x.row(a), BAD);
            Check.due("atom " + a, x.atom(C, a, a), a);
            Check.due("row(" + a + ")", x.row(a), 4 * HEAD);
        }
        String seven = Sketch.seen(x);
        Check.due("an eighth", x.atom(C, 0, 0), FULL);
        Check.due("after it", Sketch.seen(x), seven);
        Check.due("hydrogens(7)", x.hydrogens(7), BAD);
    }

    private static void numberedAsTheyCame() {
        Check.part("atoms and bonds are numbered 0, 1, .. as they came, refused ones have no number");
        StereoForms x = new StereoForms();
        Check.due("refused", x.atom(6, 0, 0), BAD);
        Check.due("an oxygen", x.atom(O, 0, 0), 0);
        Check.due("refused", x.atom(C, 0, 1001), BAD);
        Check.due("a nitrogen", x.atom(N, 0, 0), 1);
        Check.due("refused", x.bond(0, 0, 1, 0), BAD);
        Check.due("refused", x.bond(0, 1, 3, 0), VALENCE);
        Check.due("a carbon", x.atom(C, 0, 0), 2);
        Check.due("the first bond", x.bond(2, 1, 2, 0), 0);
        Check.due("refused", x.bond(1, 2, 1, 0), BAD);
        Check.due("refused", x.bond(1, 0, 2, 0), VALENCE);
        Check.due("the second bond", x.bond(0, 1, 1, 0), 1);
        Check.due("hydrogens(0)", x.hydrogens(0), 1);
        Check.due("hydrogens(1)", x.hydrogens(1), 0);
        Check.due("hydrogens(2)", x.hydrogens(2), 2);
        Check.due("two bonds in all", x.turn(2), BAD);
    }

    private static void atMostNineBonds() {
        Check.part("at most 9 bonds");
        StereoForms x = Sketch.carbons(7);
        int[] ends = {0, 1, 1, 2, 2, 3, 3, 4, 4, 5, 5, 6, 6, 0, 0, 2, 4, 6};
        for (int k = 0; k < 9; k++) {
            Check.due("turn(" + k + ") before", x.turn(k), BAD);
            Check.due("bond " + k, x.bond(ends[2 * k], ends[2 * k + 1], 1, 1), k);
            Check.due("turn(" + k + ")", x.turn(k), 1);
        }
        String nine = Sketch.seen(x);
        Check.due("a tenth", x.bond(1, 3, 1, 1), FULL);
        Check.due("after it", Sketch.seen(x), nine);
        Check.due("nine marks", x.flip(), 9);
    }

    private static void atMostOneBetweenTheSame() {
        Check.part("at most one between the same two");
        StereoForms x = Sketch.carbons(2);
        Check.due("one", x.bond(1, 0, 1, 0), 0);
        String one = Sketch.seen(x);
        Check.due("another", x.bond(1, 0, 1, 0), BAD);
        Check.due("another the other way round", x.bond(0, 1, 2, 1), BAD);
        Check.due("after them", Sketch.seen(x), one);
        Check.due("no mark", x.flip(), 0);
        Check.due("hydrogens(0)", x.hydrogens(0), 3);
    }

    private static void narrowEndAtFirst() {
        Check.part("with the narrow end at its first atom");
        int[] senses = {6, 4};
        for (int mark = 1; mark <= 2; mark++) {
            StereoForms x = Sketch.atoms(C, 0, 0, F, 100, 0, CL, -50, 80, S, -50, -80);
            Sketch.bonds(x, 0, 1, 1, mark, 0, 2, 1, 0, 0, 3, 1, 0);
            Check.due("the centre is first", x.sense(0), senses[mark - 1]);
            StereoForms y = Sketch.atoms(C, 0, 0, F, 100, 0, CL, -50, 80, S, -50, -80);
            Sketch.bonds(y, 1, 0, 1, mark, 0, 2, 1, 0, 0, 3, 1, 0);
            Check.due("the centre is second", y.sense(0), 5);
        }
    }

    private static void valencesOfSingleBonds() {
        Check.part("the orders of an atom's bonds are together at most its valence, bond by bond");
        for (int element = 0; element <= 5; element++) {
            StereoForms x = Sketch.atoms(element, 0, 0, C, 9, 1, C, 8, 2, C, 7, 3, C, 6, 4, C, 5, 5);
            int valence = Sketch.VALENCES[element];
            for (int k = 0; k < valence; k++) {
                Check.due("element " + element + ", bond " + k, x.bond(k % 2 * (k + 1), (k + 1) % 2 * (k + 1), 1, 0), k);
            }
            String all = Sketch.seen(x);
            Check.due("element " + element + ", one more", x.bond(0, valence + 1, 1, 0), VALENCE);
            Check.due("the other way round", x.bond(valence + 1, 0, 1, 0), VALENCE);
            Check.due("after them", Sketch.seen(x), all);
            Check.due("the other has its four", x.hydrogens(valence + 1), 4);
        }
    }

    private static void valencesOfOrders() {
        Check.part("the orders of an atom's bonds are together at most its valence, order by order");
        for (int first = 1; first <= 3; first++) {
            for (int second = 1; second <= 3; second++) {
                StereoForms x = Sketch.carbons(3);
                Check.due("C, order " + first, x.bond(0, 1, first, 0), 0);
                boolean fits = first + second <= 4;
                Check.due("then " + second, x.bond(0, 2, second, 0), fits ? 1 : VALENCE);
                Check.due("left", x.hydrogens(0), 4 - first - (fits ? second : 0));
                Check.due("left of the other", x.hydrogens(2), 4 - (fits ? second : 0));
            }
        }
        StereoForms both = Sketch.atoms(F, 0, 0, CL, 9, 9, O, 5, 5);
        Check.due("both would have too much", both.bond(0, 1, 2, 0), VALENCE);
        Check.due("the first would", both.bond(0, 2, 2, 0), VALENCE);
        Check.due("the second would", both.bond(2, 1, 2, 0), VALENCE);
        Check.due("none would", both.bond(0, 1, 1, 0), 0);
    }

    private static void hydrogensLeft() {
        Check.part("its hydrogens are what is left of that");
        for (int element = 0; element <= 5; element++) {
            int valence = Sketch.VALENCES[element];
            for (int order = 0; order <= Math.min(3, valence); order++) {
                StereoForms x = Sketch.atoms(element, 0, 0, C, 9, 9);
                if (order > 0) {
                    Check.due("bond(0, 1, order, 0)", x.bond(0, 1, order, 0), 0);
                }
                Check.due("element " + element + ", order " + order, x.hydrogens(0), valence - order);
                Check.due("the carbon", x.hydrogens(1), 4 - order);
            }
        }
    }

    private static void threeOrFourBonds() {
        Check.part("a centre is a carbon with three or four bonds");
        StereoForms x = Sketch.atoms(C, 0, 0, F, 100, 0, F, 0, 100, F, -100, 0, F, 0, -100, F, -90, -90);
        Check.due("none", x.sense(0), 1);
        x.bond(0, 1, 1, 1);
        Check.due("one", x.sense(0), 1);
        x.bond(0, 2, 1, 0);
        Check.due("two", x.sense(0), 1);
        x.bond(0, 3, 1, 0);
        Check.due("three, on a line but for the first", x.sense(0), 6);
        x.bond(0, 4, 1, 0);
        Check.due("four", x.sense(0), 6);
        Check.due("a fifth", x.bond(0, 5, 1, 2), VALENCE);
        Check.due("four still", x.sense(0), 6);
    }

    private static void allOfOrderOne() {
        Check.part("a centre's bonds are all of order 1");
        for (int twofold = 0; twofold < 3; twofold++) {
            StereoForms x = Sketch.atoms(C, 0, 0, C, 100, 0, C, -50, 80, C, -50, -80);
            for (int k = 0; k < 3; k++) {
                x.bond(0, k + 1, k == twofold ? 2 : 1, k == (twofold + 1) % 3 ? 1 : 0);
            }
            Check.due("bond " + twofold + " of order 2", x.sense(0), 1);
        }
        StereoForms triple = Sketch.carbons(3);
        Sketch.bonds(triple, 0, 1, 3, 1, 0, 2, 1, 0);
        Check.due("orders 3 and 1", triple.sense(0), 1);
        StereoForms behind = Sketch.atoms(C, 0, 0, C, 100, 0, C, -50, 80, C, -50, -80, O, 200, 0);
        Sketch.bonds(behind, 0, 1, 1, 1, 0, 2, 1, 0, 0, 3, 1, 0, 1, 4, 2, 0);
        Check.due("order 2 at a neighbour", behind.sense(0), 6);
    }

    private static void carbonAlone() {
        Check.part("a centre is a carbon");
        StereoForms x = Sketch.atoms(N, 0, 0, F, 100, 0, F, -50, 80, F, -50, -80);
        Sketch.bonds(x, 0, 1, 1, 1, 0, 2, 1, 0, 0, 3, 1, 0);
        Check.due("a nitrogen with three", x.sense(0), 1);
        Check.due("it has no sense in the form", x.senses(), 40);
        Check.due("nor isomers", x.isomers(), 1);
    }

    private static void wedgeOrElseZero() {
        Check.part("z is 1 for a wedge, -1 for a hash with its narrow end at the centre, else 0");
        // Two carbons with a bond, each with two fluorines: one mark between them is for one alone.
        StereoForms x = Sketch.atoms(C, 0, 0, C, 100, 0, F, -50, 80, F, -50, -80, F, 150, 80, F, 150, -80);
        Sketch.bonds(x, 0, 1, 1, 1, 0, 2, 1, 0, 0, 3, 1, 0, 1, 4, 1, 0, 1, 5, 1, 0);
        Check.due("narrow at 0: 1 (-50 * -80 - 80 * -50) > 0", x.sense(0), 6);
        Check.due("wide at 1", x.sense(1), 5);
        x.mark(0, 1, 1);
        Check.due("wide at 0", x.sense(0), 5);
        Check.due("narrow at 1: 1 (50 * -80 - 80 * 50) < 0", x.sense(1), 4);
        x.mark(0, 2, 1);
        Check.due("wide at 0", x.sense(0), 5);
        Check.due("a hash at 1", x.sense(1), 6);
        x.mark(0, 2, 0);
        Check.due("a hash at 0", x.sense(0), 4);
        Check.due("wide at 1", x.sense(1), 5);
        x.mark(0, 0, 0);
        Check.due("none at 0", x.sense(0), 5);
        Check.due("none at 1", x.sense(1), 5);
    }

    /** (1, 0, 1) (0, 1, 0) (wx, wy, 0): 1 (0 * wy - 1 * wx) = -wx. */
    private static void signOfThree() {
        Check.part("with three: the sign (1, 0 or -1) of the determinant");
        StereoForms x = Sketch.atoms(C, 0, 0, F, 1, 0, F, 0, 1, F, -1, 0);
        Sketch.bonds(x, 0, 1, 1, 1, 0, 2, 1, 0, 0, 3, 1, 0);
        Check.due("1", x.sense(0), 6);
        x.move(3, 0, -1);
        Check.due("0", x.sense(0), 5);
        x.move(3, 1, -1);
        Check.due("-1", x.sense(0), 4);
        x.move(3, 0, 0);
        Check.due("at the centre's place", x.sense(0), 5);
        x.move(3, 0, 1);
        Check.due("at a neighbour's place", x.sense(0), 5);
    }

    /** Less D (0, 0, 0): (1, 0, 1) (0, 1, 0) (wx, wy, 0), and the determinant -wx again. */
    private static void signOfFour() {
        Check.part("with four: the sign of that of A - D, B - D, C - D");
        StereoForms x = Sketch.atoms(C, 5, 7, F, 1, 0, F, 0, 1, F, -1, 0, F, 0, 0);
        Sketch.bonds(x, 0, 1, 1, 1, 0, 2, 1, 0, 0, 3, 1, 0, 0, 4, 1, 0);
        Check.due("1", x.sense(0), 6);
        x.move(3, 0, -1);
        Check.due("0", x.sense(0), 5);
        x.move(3, 1, -1);
        Check.due("-1", x.sense(0), 4);
        x.move(0, -1000, 1000);
        Check.due("the centre's own place is all one", x.sense(0), 4);
        x.mark(3, 1, 0);
        // (1, 0, 0) (0, 1, -1) (1, -1, -1): 1 (1 * -1 - -1 * -1) = -2
        Check.due("a wedge at D too", x.sense(0), 4);
        x.mark(3, 2, 0);
        // (1, 0, 2) (0, 1, 1) (1, -1, 1): 1 (1 * 1 - 1 * -1) + 2 (0 * -1 - 1 * 1) = 0
        Check.due("a hash at D", x.sense(0), 5);
        x.move(3, 2, -1);
        // (1, 0, 2) (0, 1, 1) (2, -1, 1): 1 (1 * 1 - 1 * -1) + 2 (0 * -1 - 1 * 2) = -2
        Check.due("and a place farther", x.sense(0), 4);
        x.move(3, -1, -1);
        // (1, 0, 2) (0, 1, 1) (-1, -1, 1): 1 (1 * 1 - 1 * -1) + 2 (0 * -1 - 1 * -1) = 4
        Check.due("and on the other side", x.sense(0), 6);
    }

    private static void farthestPlaces() {
        Check.part("the greatest and least determinants, from -1000 to 1000");
        StereoForms x = Sketch.atoms(C, 0, 0, F, 1000, 1000, F, -1000, 1000, F, -1000, -1000, F, 1000, -1000);
        Sketch.bonds(x, 0, 1, 1, 1, 0, 2, 1, 2, 0, 3, 1, 1, 0, 4, 1, 2);
        Check.due("the greatest of four", x.sense(0), 6);
        x.flip();
        Check.due("the least of four", x.sense(0), 4);
        StereoForms y = Sketch.atoms(C, -1000, -1000, F, 1000, 1000, F, -1000, 1000, F, 1000, -1000);
        Sketch.bonds(y, 0, 1, 1, 2, 0, 2, 1, 1, 0, 3, 1, 1);
        // (2000, 2000, -1) (0, 2000, 1) (2000, 0, 1): 4000000 + 4000000 + 4000000
        Check.due("the greatest of three", y.sense(0), 6);
        y.flip();
        Check.due("the least of three", y.sense(0), 4);
    }

    private static void oneBondMoreOrTwo() {
        Check.part("a hinge's ends have one bond more, or two");
        StereoForms x = Sketch.atoms(C, 0, 0, C, 100, 0, F, -50, 80, F, 150, 80, F, -50, -80, F, 150, -80);
        x.bond(0, 1, 2, 0);
        Check.due("none and none", x.turn(0), 1);
        x.bond(0, 2, 1, 0);
        Check.due("one and none", x.turn(0), 1);
        x.bond(1, 3, 1, 0);
        Check.due("one and one", x.turn(0), 6);
        x.bond(0, 4, 1, 0);
        Check.due("two and one", x.turn(0), 6);
        x.bond(1, 5, 1, 0);
        Check.due("two and two", x.turn(0), 6);
        StereoForms y = Sketch.atoms(C, 0, 0, C, 100, 0, F, -50, 80, F, -50, -80);
        Sketch.bonds(y, 0, 1, 2, 0, 0, 2, 1, 0, 0, 3, 1, 0);
        Check.due("two and none", y.turn(0), 1);
        StereoForms z = Sketch.atoms(C, 0, 0, C, 100, 0, F, 150, 80, F, 150, -80);
        Sketch.bonds(z, 0, 1, 2, 0, 1, 2, 1, 0, 1, 3, 1, 0);
        Check.due("none and two", z.turn(0), 1);
    }

    private static void carbonOrNitrogen() {
        Check.part("a hinge is between carbon or nitrogen");
        for (int left = C; left <= N; left++) {
            for (int right = C; right <= N; right++) {
                StereoForms x = Sketch.atoms(left, 0, 0, right, 100, 0, F, -50, 80, F, 150, 80);
                Sketch.bonds(x, 0, 1, 2, 0, 0, 2, 1, 0, 1, 3, 1, 0);
                Check.due("elements " + left + " and " + right, x.turn(0), 6);
            }
        }
        for (int other : new int[] {O, S}) {
            StereoForms x = Sketch.atoms(C, 0, 0, other, 100, 0, F, -50, 80, F, 150, 80);
            Sketch.bonds(x, 0, 1, 2, 0, 0, 2, 1, 0);
            Check.due("element " + other, x.turn(0), 1);
            Check.due("which can have no bond more", x.bond(1, 3, 1, 0), VALENCE);
            Check.due("element " + other + " still", x.turn(0), 1);
        }
    }

    private static void orderTwo() {
        Check.part("a hinge is a bond of order 2");
        int[] turns = {1, 6, 1};
        for (int order = 1; order <= 3; order++) {
            StereoForms x = Sketch.atoms(C, 0, 0, C, 100, 0, F, -50, 80, F, 150, 80);
            Sketch.bonds(x, 0, 1, order, 0, 0, 2, 1, 0, 1, 3, 1, 0);
            Check.due("order " + order, x.turn(0), turns[order - 1]);
            Check.due("a single bond at its end", x.turn(1), 1);
        }
    }

    private static void allTheseOfOrderOne() {
        Check.part("all these of order 1");
        StereoForms x = Sketch.atoms(C, 0, 0, C, 100, 0, C, -50, 80, F, 150, 80);
        Sketch.bonds(x, 0, 1, 2, 0, 0, 2, 2, 0, 1, 3, 1, 0);
        Check.due("order 2 at the first end", x.turn(0), 1);
        StereoForms y = Sketch.atoms(C, 0, 0, C, 100, 0, F, -50, 80, C, 150, 80);
        Sketch.bonds(y, 0, 1, 2, 0, 0, 2, 1, 0, 1, 3, 2, 0);
        Check.due("order 2 at the second end", y.turn(0), 1);
        StereoForms z = Sketch.atoms(C, 0, 0, C, 100, 0, C, -50, 80, C, 150, 80, O, -90, 90, N, 190, 90);
        Sketch.bonds(z, 0, 1, 2, 0, 0, 2, 1, 0, 1, 3, 1, 0, 2, 4, 2, 0, 3, 5, 3, 0);
        Check.due("orders 2 and 3 behind the neighbours", z.turn(0), 6);
    }

    private static void sideZero() {
        Check.part("0 if the side of a neighbour is 0");
        int[][] places = {{-50, 80}, {150, 80}, {-50, -80}, {150, -80}};
        for (int k = 0; k < 4; k++) {
            StereoForms x = Sketch.atoms(C, 0, 0, C, 100, 0, F, -50, 80, F, 150, 80, F, -50, -80, F, 150, -80);
            Sketch.bonds(x, 0, 1, 2, 0, 0, 2, 1, 0, 1, 3, 1, 0, 0, 4, 1, 0, 1, 5, 1, 0);
            x.move(2 + k, places[k][0], places[k][1] > 0 ? 1 : -1);
            Check.due("neighbour " + k + " just beside the line", x.turn(0), 6);
            x.move(2 + k, places[k][0], 0);
            Check.due("neighbour " + k + " on the line", x.turn(0), 5);
            x.move(2 + k, 50, 0);
            Check.due("neighbour " + k + " between the ends", x.turn(0), 5);
            x.move(2 + k, 0, 0);
            Check.due("neighbour " + k + " at an end's place", x.turn(0), 5);
        }
        StereoForms y = Sketch.hinge(-50, 80);
        y.move(1, 0, 0);
        Check.due("both ends at one place", y.turn(0), 5);
        y.move(1, 0, 1);
        Check.due("and one place apart", y.turn(0), 4);
    }

    private static void twoOnTheSameSide() {
        Check.part("0 if one of the two has two such on the same side");
        StereoForms x = Sketch.atoms(C, 0, 0, C, 100, 0, F, -50, 80, F, 150, 80, F, -50, -80, F, 150, -80);
        Sketch.bonds(x, 0, 1, 2, 0, 0, 2, 1, 0, 1, 3, 1, 0, 0, 4, 1, 0, 1, 5, 1, 0);
        x.move(4, -50, 1);
        Check.due("both of the first above", x.turn(0), 5);
        x.move(4, -50, -1);
        Check.due("one below", x.turn(0), 6);
        x.move(2, -50, -1);
        Check.due("both of the first below", x.turn(0), 5);
        x.move(4, -50, 1);
        Check.due("one above: they have changed sides", x.turn(0), 4);
        x.move(5, 150, 1);
        Check.due("both of the second above", x.turn(0), 5);
        x.move(3, 150, -1);
        Check.due("one below: they have changed sides too", x.turn(0), 6);
        x.move(5, 150, -1);
        Check.due("both of the second below", x.turn(0), 5);
    }

    private static void farthestSides() {
        Check.part("sides from -1000 to 1000");
        StereoForms x = Sketch.atoms(C, -1000, -1000, C, 1000, 1000, F, -1000, 1000, F, 1000, -1000);
        Sketch.bonds(x, 0, 1, 2, 0, 0, 2, 1, 0, 1, 3, 1, 0);
        Check.due("the greatest and the least", x.turn(0), 4);
        x.move(3, 999, 1000);
        Check.due("the greatest and just beside the line", x.turn(0), 6);
        x.move(3, 1000, 999);
        Check.due("just beside it on the other side", x.turn(0), 4);
        x.move(3, 999, 999);
        Check.due("on it", x.turn(0), 5);
    }

    private static void othersHaveSenseZero() {
        Check.part("other atoms and bonds have the sense 0");
        StereoForms x = Sketch.nineBonds(1);
        for (int bond = 0; bond < 9; bond++) {
            Check.due("turn(" + bond + ")", x.turn(bond), 1);
        }
        for (int a : new int[] {1, 4, 6}) {
            Check.due("sense(" + a + "), with two bonds", x.sense(a), 1);
        }
        for (int a : new int[] {0, 2, 3, 5}) {
            Check.due("sense(" + a + "), with three", x.sense(a) >= 4, true);
        }
    }

    private static void rowsFirstAndLast() {
        Check.part("for each j < i the order times 4^j: none at row 0, 4^5 at row 6");
        for (int order = 1; order <= 3; order++) {
            StereoForms x = Sketch.atoms(N, 0, 0, N, 10, 0, C, 20, 0, C, 30, 0, C, 40, 0, C, 50, 0, C, 60, 0);
            Sketch.bonds(x, 0, 1, order, 0);
            for (int i = 0; i < 5; i++) {
                Check.due("row(" + i + ")", x.row(i), 4 * HEAD);
            }
            Check.due("row(5), order " + order, x.row(5), (11 - order) * HEAD);
            Check.due("row(6), order " + order, x.row(6), (11 - order) * HEAD + order * 1024);
        }
        StereoForms y = Sketch.atoms(S, 0, 0, O, 10, 0);
        Sketch.bonds(y, 0, 1, 2, 0);
        Check.due("row(0)", y.row(0), 16 * HEAD);
        Check.due("row(1)", y.row(1), 40 * HEAD + 2);
    }

    private static void rowsOfElements() {
        Check.part("65536 times (8 times the element + its hydrogens), from the least to the greatest");
        for (int element = 0; element <= 5; element++) {
            StereoForms x = Sketch.atoms(element, 0, 0);
            Check.due("element " + element, x.row(0), HEAD * (8 * element + Sketch.VALENCES[element]));
        }
        StereoForms x = Sketch.carbons(5);
        Sketch.bonds(x, 4, 0, 1, 0, 4, 1, 1, 0, 4, 2, 1, 0, 4, 3, 1, 0);
        Check.due("a carbon without hydrogens: the least row", x.row(0), 0);
        Check.due("one with three", x.row(1), 3 * HEAD + 1);
    }

    private static void sensesFromZeroOn() {
        Check.part("the senses are one number, from 0 on");
        StereoForms x = Sketch.atoms(C, 0, 0, C, 0, 100, C, -90, -60, C, 90, -70);
        Sketch.bonds(x, 0, 1, 1, 1, 2, 0, 1, 1, 3, 0, 1, 1, 1, 2, 1, 1, 1, 3, 1, 0, 2, 3, 1, 0);
        Check.due("four centres, each with the sense -1", x.senses(), 0);
        x.write();
        Check.due("the text", Check.text(x), "C@;C@(0);C@(0)(1);C@(0)(1)(2);");
        Check.due("keep()", x.keep(), 4);
        x.clear();
        Check.due("no atoms have another form with these senses", x.compare(), 3);
        StereoForms ones = new StereoForms();
        for (int n = 0, due = 0; n <= 7; n++, due = 3 * due + 1) {
            Check.due(n + " atoms without a sense", ones.senses(), due);
            ones.atom(n % 6, n, 0);
        }
    }

    /** A ring of six carbons; each third bond is a hinge. */
    private static void sensesOfMostHinges() {
        Check.part("likewise for each hinge: seven atoms, three hinges");
        StereoForms x = Sketch.atoms(C, 200, 0, C, 100, 170, C, -100, 170, C, -200, 0, C, -100, -170, C, 100, -170,
                CL, 300, 0);
        Sketch.bonds(x, 0, 1, 2, 0, 1, 2, 1, 0, 2, 3, 2, 0, 3, 4, 1, 0, 4, 5, 2, 0, 5, 0, 1, 0);
        Check.due("the senses 1, 1, 1", x.senses(), 1093 * 27 + 26);
        Check.due("isomers()", x.isomers(), 4);
        x.move(0, 100, 170);
        x.move(1, 100, 170);
        Check.due("the first hinge has no sense", x.turn(0), 5);
        Check.due("the others have", x.turn(2) + x.turn(4), 12);
        Check.due("isomers() of two", x.isomers(), 3);
        for (int a = 0; a < 6; a++) {
            x.move(a, a, 0);
        }
        Check.due("the senses 0, 0, 0", x.senses(), 1093 * 27 + 13);
        Check.due("isomers() of none", x.isomers(), 1);
    }

    private static void noAtoms() {
        Check.part("0 atoms: no rows, senses 0");
        StereoForms x = new StereoForms();
        Check.due("row(0)", x.row(0), BAD);
        Check.due("senses()", x.senses(), 0);
        Check.due("chiral()", x.chiral(), false);
        Check.due("isomers()", x.isomers(), 1);
        Check.due("write()", x.write(), 0);
        Check.due("keep()", x.keep(), 0);
        Check.due("compare()", x.compare(), 0);
        Check.due("an atom", x.atom(C, 0, 0), 0);
        Check.due("row(0) of one", x.row(0), 4 * HEAD);
        Check.due("senses() of one", x.senses(), 1);
        Check.due("compare() of one", x.compare(), 3);
    }

    private static void digitsOfTheText() {
        Check.part("j in a digit, from 0 to 5");
        StereoForms x = Sketch.atoms(N, 0, 0, N, 10, 0, C, 20, 0, C, 30, 0, C, 40, 0, C, 50, 0, C, 60, 0);
        Sketch.bonds(x, 0, 1, 3, 0);
        Check.due("write()", x.write(), 18);
        Check.due("the text", Check.text(x), "C;C;C;C;C;N;N(5#);");
        StereoForms y = Sketch.atoms(CL, 0, 0, C, 10, 0, CL, 20, 0, CL, 30, 5, CL, 40, 0);
        Sketch.bonds(y, 1, 0, 1, 0, 1, 2, 1, 0, 1, 3, 1, 0, 1, 4, 1, 0);
        Check.due("write()", y.write(), 26);
        Check.due("the text", Check.text(y), "C;Cl(0);Cl(0);Cl(0);Cl(0);");
    }

    private static void orderInTheText() {
        Check.part("for order 2 =, c or t behind it only at a hinge with a sense, for order 3 #");
        StereoForms x = Sketch.hinge(-50, 80);
        String[] texts = {"C;C(0=c);F(0);F(1);", "C;C(0=);F(0);F(1);", "C;C(0=t);F(0);F(1);"};
        for (int k = 0; k < 3; k++) {
            x.move(2, -50, 1 - k);
            Check.due("write()", x.write(), texts[k].length());
            Check.due("the text", Check.text(x), texts[k]);
        }
        StereoForms y = Sketch.atoms(C, 0, 0, O, 100, 0, F, -50, 80);
        Sketch.bonds(y, 0, 1, 2, 0, 0, 2, 1, 0);
        Check.due("write()", y.write(), 13);
        Check.due("no hinge", Check.text(y), "C;O(0=);F(0);");
    }
}
