/** Promises 11 to 14: the rows and senses of the form, chiral, isomers. */
public final class FormTest {
    private static final int HEAD = 65536;

    public static void main(String[] args) {
        rows();
        rowsOfBranches();
        noSuchRow();
        sensesOfFlatDrawings();
        sensesOfCentres();
        sensesOfHinges();
        allNumberings();
        allNumberingsOfHinge();
        chiral();
        isomers();
        tooManyIsomers();
        Check.end();
    }

    private static void rows() {
        Check.part("promise 11");
        rowsAre("OC", new int[] {2, 0}, new int[][] {{0, 1, 1}}, 3 * HEAD, 17 * HEAD + 1);
        rowsAre("CO", new int[] {0, 2}, new int[][] {{0, 1, 1}}, 3 * HEAD, 17 * HEAD + 1);
        rowsAre("C=O", new int[] {0, 2}, new int[][] {{0, 1, 2}}, 2 * HEAD, 16 * HEAD + 2);
        rowsAre("N#N", new int[] {1, 1}, new int[][] {{0, 1, 3}}, 8 * HEAD, 8 * HEAD + 3);
        rowsAre("all elements", new int[] {5, 4, 3, 2, 1, 0}, new int[0][],
                4 * HEAD, 11 * HEAD, 18 * HEAD, 25 * HEAD, 33 * HEAD, 42 * HEAD);
        rowsAre("no atoms", new int[0], new int[0][]);
    }

    private static void rowsOfBranches() {
        Check.part("promise 11, least rows");
        rowsAre("CCC", new int[] {0, 0, 0}, new int[][] {{0, 1, 1}, {1, 2, 1}},
                2 * HEAD, 3 * HEAD + 1, 3 * HEAD + 1);
        rowsAre("CCCC", new int[] {0, 0, 0, 0}, new int[][] {{2, 1, 1}, {0, 2, 1}, {1, 3, 1}},
                2 * HEAD, 2 * HEAD + 1, 3 * HEAD + 1, 3 * HEAD + 4);
        rowsAre("a ring of four", new int[] {0, 0, 0, 0},
                new int[][] {{0, 1, 1}, {1, 2, 1}, {2, 3, 1}, {3, 0, 1}},
                2 * HEAD, 2 * HEAD, 2 * HEAD + 5, 2 * HEAD + 5);
        // Least is row 2, not the first that comes: the ends of two carbons are put off.
        rowsAre("three of C-C", new int[] {0, 0, 0, 0, 0, 0},
                new int[][] {{0, 1, 1}, {2, 3, 1}, {4, 5, 1}},
                3 * HEAD, 3 * HEAD, 3 * HEAD, 3 * HEAD + 1, 3 * HEAD + 4, 3 * HEAD + 16);
        rowsAre("the last digit", new int[] {0, 0, 0, 0, 0, 0, 2},
                new int[][] {{0, 1, 1}, {1, 2, 1}, {2, 3, 1}, {3, 4, 1}, {4, 5, 1}, {0, 6, 1}, {5, 0, 1}, {3, 0, 1}},
                0, HEAD + 1, 2 * HEAD + 1, 2 * HEAD + 1, 2 * HEAD + 20, 2 * HEAD + 68, 17 * HEAD + 1);
    }

    private static void noSuchRow() {
        Check.part("promise 11, BAD");
        StereoForms x = draw(new int[] {0, 0}, new int[0][]);
        Check.due("row(-1)", x.row(-1), StereoForms.BAD);
        Check.due("row(2)", x.row(2), StereoForms.BAD);
        Check.due("row(MIN)", x.row(Integer.MIN_VALUE), StereoForms.BAD);
        Check.due("row(MAX)", x.row(Integer.MAX_VALUE), StereoForms.BAD);
        x.atom(0, 0, 0);
        Check.due("row(2) of three", x.row(2), 4 * HEAD);
        x.clear();
        Check.due("row(0) of none", x.row(0), StereoForms.BAD);
    }

    private static void sensesOfFlatDrawings() {
        Check.part("promise 12, no senses");
        StereoForms x = new StereoForms();
        int ones = 0;
        for (int n = 0; n <= 7; n++) {
            Check.due(n + " atoms", x.senses(), ones);
            ones = 3 * ones + 1;
            x.atom(n % 6, n, n);
        }
    }

    private static void sensesOfCentres() {
        Check.part("promise 12, centres");
        Check.due("a wedge", halide(5, 1).senses(), 67);
        Check.due("a hash", halide(5, 2).senses(), 13);
        Check.due("no mark", halide(5, 0).senses(), 40);
        Check.due("two alike and a wedge: the lesser of both", halide(4, 1).senses(), 13);
        Check.due("two alike and a hash", halide(4, 2).senses(), 13);
    }

    private static void sensesOfHinges() {
        Check.part("promise 12, hinges");
        StereoForms x = hinge();
        Check.due("on one side", x.senses(), 122);
        x.move(3, 150, -80);
        Check.due("on two sides", x.senses(), 120);
        x.move(3, 150, 0);
        Check.due("on the line", x.senses(), 121);
        // Two hinges: behind the six atoms' ones 2 for that whose greater number is less.
        StereoForms y = diene();
        Check.due("N=N is behind C=C", y.senses(), 9 * 364 + 3 * 2 + 0);
        y.move(3, 150, -80);
        y.move(5, 350, 80);
        Check.due("both on two sides", y.senses(), 9 * 364);
    }

    /** Each of the 24 ways to draw four atoms after one another makes one form. */
    private static void allNumberings() {
        Check.part("promises 11 and 12, all numberings");
        int[][] atoms = {{0, 0, 0}, {3, 100, 0}, {4, -50, 80}, {5, -50, -80}};
        for (int way = 0; way < 256; way++) {
            int[] number = {way & 3, way >> 2 & 3, way >> 4 & 3, way >> 6 & 3};
            if ((1 << number[0] | 1 << number[1] | 1 << number[2] | 1 << number[3]) != 15) {
                continue;
            }
            StereoForms x = new StereoForms();
            int[] drawn = new int[4];
            for (int k = 0; k < 4; k++) {
                int[] atom = atoms[number[k]];
                drawn[number[k]] = x.atom(atom[0], atom[1], atom[2]);
            }
            x.bond(drawn[0], drawn[3], 1, 0);
            x.bond(drawn[0], drawn[1], 1, 1);
            x.bond(drawn[2], drawn[0], 1, 0);
            Check.due("way " + way, x.senses(), 67);
            Check.due("way " + way, x.row(0), HEAD);
            Check.due("way " + way, x.row(1), 24 * HEAD + 1);
            Check.due("way " + way, x.row(2), 32 * HEAD + 1);
            Check.due("way " + way, x.row(3), 41 * HEAD + 1);
        }
    }

    /** FClC=CFCl with both fluorines above, each end's two neighbours drawn in either order. */
    private static void allNumberingsOfHinge() {
        Check.part("promise 12, numberings of a hinge");
        for (int way = 0; way < 8; way++) {
            StereoForms x = new StereoForms();
            int left = (way & 1) == 0 ? 0 : 1;
            x.atom(0, 100 * left, 0);
            x.atom(0, 100 - 100 * left, 0);
            int leftUp = (way & 2) == 0 ? 1 : -1;
            x.atom(leftUp > 0 ? 3 : 4, -50, 80 * leftUp);
            x.atom(leftUp > 0 ? 4 : 3, -50, -80 * leftUp);
            int rightUp = (way & 4) == 0 ? 1 : -1;
            x.atom(rightUp > 0 ? 3 : 4, 150, 80 * rightUp);
            x.atom(rightUp > 0 ? 4 : 3, 150, -80 * rightUp);
            x.bond(0, 1, 2, 0);
            x.bond(left, 2, 1, 0);
            x.bond(left, 3, 1, 0);
            x.bond(1 - left, 4, 1, 0);
            x.bond(1 - left, 5, 1, 0);
            Check.due("drawn so, way " + way, x.turn(0), 5 + leftUp * rightUp);
            Check.due("the one sense of the form, way " + way, x.senses(), 3 * 364 + 2);
        }
    }

    private static void chiral() {
        Check.part("promise 13");
        Check.due("three unlike, a wedge", halide(5, 1).chiral(), true);
        Check.due("three unlike, a hash", halide(5, 2).chiral(), true);
        Check.due("three unlike, flat", halide(5, 0).chiral(), false);
        Check.due("two alike", halide(4, 1).chiral(), false);
        Check.due("a hinge", hinge().chiral(), false);
        StereoForms meso = twoCentres(1);
        Check.due("its own mirror image", meso.chiral(), false);
        StereoForms other = twoCentres(2);
        Check.due("not so", other.chiral(), true);
        other.mark(3, 1, 1);
        Check.due("after a change", other.chiral(), false);
        other.clear();
        Check.due("no atoms", other.chiral(), false);
    }

    private static void isomers() {
        Check.part("promise 14");
        Check.due("no atoms", new StereoForms().isomers(), 1);
        Check.due("three unlike, a wedge", halide(5, 1).isomers(), 2);
        Check.due("three unlike, flat", halide(5, 0).isomers(), 1);
        Check.due("two alike", halide(4, 1).isomers(), 1);
        Check.due("a hinge", hinge().isomers(), 2);
        Check.due("two hinges", diene().isomers(), 4);
        Check.due("two centres alike", twoCentres(1).isomers(), 3);
        Check.due("the same from another of them", twoCentres(2).isomers(), 3);
        StereoForms x = twoCentres(0);
        Check.due("one of two centres drawn", x.isomers(), 2);
        Check.due("a hinge and a centre", hingeAndCentre().isomers(), 4);
        StereoForms y = hinge();
        y.move(3, 150, 0);
        Check.due("a hinge with the sense 0", y.isomers(), 1);
        int before = x.senses();
        x.isomers();
        Check.due("the form stays", x.senses(), before);
        Check.due("and is as chiral as it was", x.chiral(), true);
    }

    /** Two triangles of carbons, one inside the other and joined: six centres, each with a wedge. */
    private static void tooManyIsomers() {
        Check.part("promise 14, BAD");
        StereoForms x = new StereoForms();
        int[][] places = {{0, 300}, {-300, -200}, {310, -200}, {10, 100}, {-100, -60}, {100, -70}};
        for (int[] place : places) {
            x.atom(0, place[0], place[1]);
        }
        for (int k = 0; k < 3; k++) {
            x.bond(k, (k + 1) % 3, 1, 1);
            x.bond(3 + k, 3 + (k + 1) % 3, 1, 1);
            x.bond(k, 3 + k, 1, 0);
        }
        Check.due("six", x.isomers(), StereoForms.BAD);
        x.mark(0, 0, 0);
        Check.due("a sense gone", x.sense(0), 5);
        Check.due("five", x.isomers(), StereoForms.BAD);
        x.mark(4, 0, 4);
        Check.due("another gone", x.sense(4), 5);
        Check.due("four", x.isomers() > 0 && x.isomers() <= 16, true);
        x.mark(0, 2, 0);
        Check.due("five again", x.isomers(), StereoForms.BAD);
    }

    /** Carbon with fluorine, which has the mark, chlorine and another element. */
    private static StereoForms halide(int element, int mark) {
        StereoForms x = new StereoForms();
        x.atom(0, 0, 0);
        x.atom(3, 100, 0);
        x.atom(4, -50, 80);
        x.atom(element, -50, -80);
        x.bond(0, 1, 1, mark);
        x.bond(0, 2, 1, 0);
        x.bond(0, 3, 1, 0);
        return x;
    }

    /** FC=CF with both fluorines above. */
    private static StereoForms hinge() {
        StereoForms x = new StereoForms();
        x.atom(0, 0, 0);
        x.atom(0, 100, 0);
        x.atom(3, -50, 80);
        x.atom(3, 150, 80);
        x.bond(0, 1, 2, 0);
        x.bond(2, 0, 1, 0);
        x.bond(1, 3, 1, 0);
        return x;
    }

    /** FC=C-N=NF: above and above at the first hinge, below and above at the second. */
    private static StereoForms diene() {
        StereoForms x = new StereoForms();
        x.atom(1, 250, 80);
        x.atom(0, 100, 0);
        x.atom(3, -50, 80);
        x.atom(1, 150, 80);
        x.atom(0, 0, 0);
        x.atom(3, 300, 160);
        x.bond(3, 0, 2, 0);
        x.bond(1, 4, 2, 0);
        x.bond(2, 4, 1, 0);
        x.bond(1, 3, 1, 0);
        x.bond(0, 5, 1, 0);
        return x;
    }

    /** FCl(H)C-C(H)FCl, a wedge to the first fluorine and a mark to the second. */
    private static StereoForms twoCentres(int mark) {
        StereoForms x = new StereoForms();
        x.atom(0, 0, 0);
        x.atom(0, 100, 0);
        x.atom(3, -50, 80);
        x.atom(4, -50, -80);
        x.atom(3, 150, 80);
        x.atom(4, 150, -80);
        x.bond(0, 1, 1, 0);
        x.bond(0, 2, 1, 1);
        x.bond(0, 3, 1, 0);
        x.bond(1, 4, 1, mark);
        x.bond(1, 5, 1, 0);
        return x;
    }

    /** FCl(H)C-C=CF. */
    private static StereoForms hingeAndCentre() {
        StereoForms x = new StereoForms();
        x.atom(0, -50, 80);
        x.atom(0, 0, 0);
        x.atom(0, 100, 0);
        x.atom(3, 150, 80);
        x.atom(3, -150, 80);
        x.atom(4, 0, 160);
        x.bond(0, 1, 1, 0);
        x.bond(1, 2, 2, 0);
        x.bond(2, 3, 1, 0);
        x.bond(0, 4, 1, 1);
        x.bond(0, 5, 1, 0);
        return x;
    }

    private static StereoForms draw(int[] elements, int[][] bonds) {
        StereoForms x = new StereoForms();
        for (int a = 0; a < elements.length; a++) {
            x.atom(elements[a], 10 * a, a * a);
        }
        for (int[] bond : bonds) {
            x.bond(bond[0], bond[1], bond[2], 0);
        }
        return x;
    }

    private static void rowsAre(String name, int[] elements, int[][] bonds, int... rows) {
        StereoForms x = draw(elements, bonds);
        for (int i = 0; i < rows.length; i++) {
            Check.due(name + ", row(" + i + ")", x.row(i), rows[i]);
        }
        Check.due(name + ", row behind", x.row(rows.length), StereoForms.BAD);
    }
}
