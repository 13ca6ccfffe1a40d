import java.util.function.IntBinaryOperator;

/**
 * One form for all ways to number the atoms: each drawing is drawn in every order of its atoms, and
 * moved, turned round and mirrored, beside the form of the first that is kept.
 */
public final class NumberingTest {
    /** One order of atoms and bonds that is not the first. */
    private static final int ANOTHER_WAY = 123_457;

    private final String name;
    private final int[] atoms;
    private final int[] bonds;

    /** For each atom its element, x and y; for each bond its atoms, order and mark. */
    private NumberingTest(String name, int[] atoms, int... bonds) {
        this.name = name;
        this.atoms = atoms;
        this.bonds = bonds;
    }

    public static void main(String[] args) {
        oneCentre();
        twoUnits();
        rings();
        Check.end();
    }

    private static void oneCentre() {
        int[] star = {0, 0, 0, 3, 90, 10, 4, -50, 80, 5, -50, -80, 1, 20, -70};
        new NumberingTest("three neighbours", star, 0, 1, 1, 1, 2, 0, 1, 0, 0, 3, 1, 0).isDrawn(true, 2);
        new NumberingTest("four neighbours", star, 0, 1, 1, 2, 0, 2, 1, 0, 3, 0, 1, 0, 4, 0, 1, 0).isDrawn(true, 2);
        new NumberingTest("two of four alike", new int[] {0, 0, 0, 3, 90, 10, 4, -50, 80, 4, -50, -80, 1, 20, -70},
                0, 1, 1, 1, 0, 2, 1, 0, 0, 3, 1, 0, 0, 4, 1, 0).isDrawn(false, 1);
    }

    private static void twoUnits() {
        int[] pair = {0, 0, 0, 0, 100, 0, 3, -50, 80, 4, -50, -80, 3, 150, 80, 4, 150, -80};
        new NumberingTest("two centres, one the mirror of the other", pair,
                0, 1, 1, 0, 0, 2, 1, 1, 0, 3, 1, 0, 1, 4, 1, 1, 1, 5, 1, 0).isDrawn(false, 3);
        new NumberingTest("two centres alike", pair,
                0, 1, 1, 0, 0, 2, 1, 1, 0, 3, 1, 0, 1, 4, 1, 2, 1, 5, 1, 0).isDrawn(true, 3);
        new NumberingTest("a hinge with four neighbours", pair,
                0, 1, 2, 0, 0, 2, 1, 0, 3, 0, 1, 0, 1, 4, 1, 0, 5, 1, 1, 0).isDrawn(false, 2);
        new NumberingTest("a hinge and a centre", new int[] {
                0, 0, 0, 0, 100, 0, 3, -50, 80, 0, 150, 80, 3, 250, 90, 4, 140, 180, 5, 90, 110},
                0, 1, 2, 0, 0, 2, 1, 0, 1, 3, 1, 0, 3, 4, 1, 2, 3, 5, 1, 0, 3, 6, 1, 0).isDrawn(true, 4);
    }

    private static void rings() {
        int[] three = {0, 0, 60, 0, -50, -30, 0, 50, -30, 3, 0, 160, 3, -150, -80, 3, 150, -80};
        new NumberingTest("a ring of three, all up", three, 0, 1, 1, 0, 1, 2, 1, 0, 2, 0, 1, 0,
                0, 3, 1, 1, 1, 4, 1, 1, 2, 5, 1, 1).isDrawn(false, 2);
        new NumberingTest("a ring of three, one down", three, 0, 1, 1, 0, 1, 2, 1, 0, 2, 0, 1, 0,
                0, 3, 1, 1, 1, 4, 1, 1, 2, 5, 1, 2).isDrawn(false, 2);
        new NumberingTest("a hinge in a ring", three, 0, 1, 1, 0, 1, 2, 2, 0, 2, 0, 1, 0,
                1, 4, 1, 0, 2, 5, 1, 0).isDrawn(false, 2);
        int[] seven = {0, 60, 60, 0, -60, 60, 0, -60, -60, 0, 60, -60, 3, 150, 150, 3, -150, 150, 2, 0, -150};
        new NumberingTest("a ring of four with a bridge", seven, 0, 1, 1, 0, 1, 2, 1, 0, 2, 3, 1, 0, 3, 0, 1, 0,
                0, 4, 1, 1, 1, 5, 1, 2, 6, 2, 1, 0, 6, 3, 1, 0).isDrawn(true, 3);
        // To change the places of two of the last three turns all three senses: only whether they are
        // alike is left.
        new NumberingTest("six carbons, three bound to three", new int[] {
                0, 0, 0, 0, 70, 310, 0, -120, 400, 0, 500, -30, 0, 610, 220, 0, 430, 550},
                0, 3, 1, 1, 0, 4, 1, 0, 0, 5, 1, 0, 1, 3, 1, 2, 1, 4, 1, 0, 1, 5, 1, 0,
                2, 3, 1, 0, 2, 4, 1, 0, 2, 5, 1, 1).isDrawn(false, 2);
    }

    private void isDrawn(boolean chiral, int isomers) {
        Check.part(name);
        StereoForms x = new StereoForms();
        draw(x, 0, (px, py) -> px, (px, py) -> py);
        Check.due("chiral()", x.chiral(), chiral);
        Check.due("isomers()", x.isomers(), isomers);
        String form = formOf(x);
        int ways = 1;
        for (int n = 2; n <= atoms.length / 3; n++) {
            ways *= n;
        }
        for (int way = 0; way < ways; way++) {
            StereoForms again = new StereoForms();
            draw(again, way, (px, py) -> px, (px, py) -> py);
            Check.due("way " + way, formOf(again), form);
        }
        int mirrored = chiral ? 2 : 0;
        isSeenAs("moved", 0, (px, py) -> px + 7, (px, py) -> py - 31);
        isSeenAs("turned round", 0, (px, py) -> -py, (px, py) -> px);
        isSeenAs("upside down", 0, (px, py) -> -px, (px, py) -> -py);
        isSeenAs("mirrored left and right", mirrored, (px, py) -> -px, (px, py) -> py);
        isSeenAs("mirrored on the diagonal", mirrored, (px, py) -> py, (px, py) -> px);
    }

    /** What compare() tells of a drawing whose places are changed, with and without flip(). */
    private void isSeenAs(String how, int due, IntBinaryOperator toX, IntBinaryOperator toY) {
        StereoForms x = new StereoForms();
        draw(x, 0, (px, py) -> px, (px, py) -> py);
        x.keep();
        boolean chiral = x.chiral();
        x.clear();
        draw(x, ANOTHER_WAY, toX, toY);
        Check.due(how, x.compare(), due);
        x.flip();
        Check.due(how + " and flipped", x.compare(), chiral ? 2 - due : 0);
    }

    /** Draws the atoms in an order, and the bonds in another: those without a mark from either end. */
    private void draw(StereoForms x, int way, IntBinaryOperator toX, IntBinaryOperator toY) {
        int count = atoms.length / 3;
        int[] numbers = new int[count];
        boolean[] drawn = new boolean[count];
        int left = way;
        for (int k = count; k > 0; k--) {
            int a = openOne(drawn, left % k);
            left /= k;
            drawn[a] = true;
            int px = atoms[3 * a + 1];
            int py = atoms[3 * a + 2];
            numbers[a] = x.atom(atoms[3 * a], toX.applyAsInt(px, py), toY.applyAsInt(px, py));
        }
        int most = bonds.length / 4;
        for (int k = 0; k < most; k++) {
            int at = (k + way % most) % most * 4;
            boolean turned = bonds[at + 3] == 0 && (way >> k % 8 & 1) != 0;
            int first = numbers[bonds[at + (turned ? 1 : 0)]];
            int second = numbers[bonds[at + (turned ? 0 : 1)]];
            Check.due("bond " + k, x.bond(first, second, bonds[at + 2], bonds[at + 3]), k);
        }
    }

    /** The atom that has so many before it which are not drawn either. */
    private static int openOne(boolean[] drawn, int before) {
        int a = 0;
        int left = before;
        while (drawn[a] || left > 0) {
            left -= drawn[a] ? 0 : 1;
            a++;
        }
        return a;
    }

    private static String formOf(StereoForms x) {
        StringBuilder form = new StringBuilder();
        for (int i = 0; x.row(i) != StereoForms.BAD; i++) {
            form.append(x.row(i)).append(' ');
        }
        form.append(x.senses()).append(' ').append(x.chiral()).append(' ').append(x.isomers()).append(' ');
        x.write();
        return form.append(Check.text(x)).toString();
    }
}
