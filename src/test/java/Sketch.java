import java.util.function.Supplier;
import java.util.function.ToIntFunction;

/** Drawings that several tests use, and what an object shows before and after a refused call. */
final class Sketch {
    static final int C = 0;
    static final int N = 1;
    static final int O = 2;
    static final int F = 3;
    static final int CL = 4;
    static final int S = 5;
    static final int MIN = Integer.MIN_VALUE;
    static final int MAX = Integer.MAX_VALUE;
    static final int[] VALENCES = {4, 3, 2, 1, 1, 2};

    private Sketch() {
    }

    /** For each atom its element, x and y. */
    static StereoForms atoms(int... atoms) {
        StereoForms x = new StereoForms();
        for (int k = 0; k < atoms.length; k += 3) {
            Check.due("atom " + k / 3 + " of a drawing", x.atom(atoms[k], atoms[k + 1], atoms[k + 2]), k / 3);
        }
        return x;
    }

    /** For each bond its atoms, order and mark. */
    static void bonds(StereoForms x, int... bonds) {
        for (int k = 0; k < bonds.length; k += 4) {
            int number = x.bond(bonds[k], bonds[k + 1], bonds[k + 2], bonds[k + 3]);
            Check.due("bond " + k / 4 + " of a drawing", number, k / 4);
        }
    }

    static StereoForms carbons(int count) {
        StereoForms x = new StereoForms();
        drawCarbons(x, count);
        return x;
    }

    static void drawCarbons(StereoForms x, int count) {
        for (int a = 0; a < count; a++) {
            Check.due("carbon " + a, x.atom(C, 100 * a, a % 2 * 60), a);
        }
    }

    /** Seven carbons and nine bonds; no carbon has all its valence used. */
    static StereoForms nineBonds(int mark) {
        StereoForms x = carbons(7);
        drawNineBonds(x, mark);
        return x;
    }

    static void drawNineBonds(StereoForms x, int mark) {
        for (int a = 0; a < 7; a++) {
            Check.due("bond " + a, x.bond(a, (a + 1) % 7, 1, mark), a);
        }
        Check.due("bond 7", x.bond(0, 3, 1, mark), 7);
        Check.due("bond 8", x.bond(2, 5, 1, mark), 8);
    }

    /** A carbon with fluorine on a wedge, chlorine and sulphur; its form is kept and written. */
    static StereoForms fluoride() {
        StereoForms x = atoms(C, 0, 0, F, 100, 0, CL, -50, 80, S, -50, -80);
        bonds(x, 0, 1, 1, 1, 0, 2, 1, 0, 0, 3, 1, 0);
        x.keep();
        x.write();
        return x;
    }

    /** FC=CF, the ends with the numbers 0 and 1, their fluorines 2 and 3, the second at a place. */
    static StereoForms hinge(int px, int py) {
        StereoForms x = atoms(C, 0, 0, C, 100, 0, F, px, py, F, 150, 80);
        bonds(x, 0, 1, 2, 0, 0, 2, 1, 0, 1, 3, 1, 0);
        return x;
    }

    /**
     * Whether atom 2 of hinge() is at a place: lines through it, one level and one upright, have
     * atom 2 on neither side. The ends and atom 3 are moved for it.
     */
    static boolean isAt(StereoForms x, int px, int py) {
        x.move(0, -1000, py);
        x.move(1, 1000, py);
        x.move(3, 0, py > 0 ? -1000 : 1000);
        boolean level = x.turn(0) == 5;
        x.move(0, px, -1000);
        x.move(1, px, 1000);
        x.move(3, px > 0 ? -1000 : 1000, 0);
        return level && x.turn(0) == 5;
    }

    /** All that the calls which change nothing show: 42 calls and those for the text. */
    static String seen(StereoForms x) {
        StringBuilder all = new StringBuilder();
        for (int a = -1; a <= 7; a++) {
            all.append(a).append(':').append(x.hydrogens(a)).append(' ').append(x.sense(a));
            all.append(' ').append(x.row(a)).append(", ");
        }
        for (int bond = -1; bond <= 9; bond++) {
            all.append(x.turn(bond)).append(' ');
        }
        all.append("senses ").append(x.senses()).append(" chiral ").append(x.chiral());
        all.append(" isomers ").append(x.isomers()).append(" compare ").append(x.compare());
        return all.append(" text ").append(Check.text(x)).toString();
    }

    /**
     * A refused call gives the answer, shows at once what was to be seen before it, and leaves all
     * later calls the answers that they have on an object which was not asked.
     */
    static void refused(String call, int answer, Supplier<StereoForms> drawing, ToIntFunction<StereoForms> asked) {
        StereoForms x = drawing.get();
        StereoForms untouched = drawing.get();
        Check.due(call, asked.applyAsInt(x), answer);
        Check.due("after " + call, seen(x), seen(untouched));
        Check.due("later after " + call, later(x), later(untouched));
    }

    /** The same for the calls that answer false. */
    static void refused(String call, Supplier<StereoForms> drawing, Asked asked) {
        refused(call, 0, drawing, (ToIntFunction<StereoForms>) x -> asked.of(x) ? 1 : 0);
    }

    interface Asked {
        boolean of(StereoForms x);
    }

    /** Goes on with the drawing, and tells all answers. */
    private static String later(StereoForms x) {
        StringBuilder all = new StringBuilder();
        all.append(x.flip()).append(' ').append(x.senses()).append(' ').append(x.compare()).append(' ');
        int atom = x.atom(O, 7, -9);
        all.append(atom).append(' ').append(x.bond(atom, 0, 1, 1)).append(' ').append(x.bond(0, 1, 1, 1)).append(' ');
        all.append(x.mark(0, 1, 0)).append(' ').append(x.keep()).append(' ').append(x.write()).append(' ');
        all.append(seen(x)).append(' ').append(x.clear()).append(' ').append(x.atom(C, 0, 0)).append(' ');
        return all.append(x.hydrogens(0)).append(' ').append(x.flip()).append(' ').append(x.compare()).toString();
    }
}
