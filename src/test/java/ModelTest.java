import java.util.ArrayList;
import java.util.List;
import java.util.Random;

/** All promises: long runs of calls, each answer beside that of the plain model in Model.java. */
public final class ModelTest {
    private static final int RUNS = 500;
    private static final int STEPS = 48;
    /** What an object answers after so many calls is free. */
    private static final int MOST_CALLS = 512;

    private final Random random;
    private final StereoForms x = new StereoForms();
    private final Model model = new Model();
    /** What atoms are drawn at: a narrow grid makes places coincide and lie on a line. */
    private final int grid;
    private final int mostAtoms;
    private int atoms = 0;
    private int bonds = 0;
    private final List<int[]> ends = new ArrayList<>();

    private ModelTest(int seed) {
        random = new Random(seed);
        grid = seed % 3 == 0 ? 2 : seed % 3 == 1 ? 5 : 1000;
        // A model that tries 5040 numberings is slow: most runs stay below seven atoms.
        mostAtoms = seed % 10 == 0 ? 7 : 4 + seed % 3;
    }

    public static void main(String[] args) {
        for (int seed = 0; seed < RUNS; seed++) {
            Check.part("run " + seed);
            new ModelTest(seed).run();
        }
        Check.end();
    }

    private void run() {
        int before = Check.asked();
        for (int step = 0; step < STEPS; step++) {
            change();
            if (step % 4 == 0) {
                wrongCall();
            }
            if (step % 12 == 11) {
                look();
            }
            if (step % 24 == 23) {
                compareAfterChanges();
            }
        }
        readText();
        Check.due("clear()", x.clear(), model.clear());
        look();
        // Each call is asked about once.
        int calls = Check.asked() - before;
        Check.due(calls + " calls are not too many", calls <= MOST_CALLS, true);
    }

    private void change() {
        int dice = random.nextInt(20);
        if (atoms < 3 || dice < 5 && atoms < mostAtoms) {
            addAtom();
        } else if (dice < 12) {
            addBond();
        } else if (dice < 15) {
            int a = random.nextInt(atoms);
            int px = place();
            int py = place();
            Check.due("move(" + a + ", " + px + ", " + py + ")", x.move(a, px, py), model.move(a, px, py));
        } else if (dice < 18 && bonds > 0) {
            int b = random.nextInt(bonds);
            int mark = random.nextInt(3);
            int narrow = ends.get(b)[random.nextInt(2)];
            Check.due("mark(" + b + ", " + mark + ", " + narrow + ")",
                    x.mark(b, mark, narrow), model.mark(b, mark, narrow));
        } else if (dice == 18) {
            Check.due("flip()", x.flip(), model.flip());
        } else if (random.nextInt(4) == 0) {
            Check.due("clear()", x.clear(), model.clear());
            atoms = 0;
            bonds = 0;
            ends.clear();
        }
    }

    private void addAtom() {
        int element = random.nextInt(10) < 6 ? 0 : random.nextInt(6);
        int px = place();
        int py = place();
        Check.due("atom(" + element + ", " + px + ", " + py + ")",
                x.atom(element, px, py), model.atom(element, px, py));
        atoms++;
    }

    private void addBond() {
        // Half of the bonds go out from the first atoms, so that there are centres.
        int a = random.nextInt(random.nextBoolean() ? Math.min(2, atoms) : atoms);
        int b = random.nextInt(atoms);
        int order = Math.max(1, random.nextInt(8) - 4);
        int mark = random.nextInt(3);
        int got = x.bond(a, b, order, mark);
        Check.due("bond(" + a + ", " + b + ", " + order + ", " + mark + ")", got, model.bond(a, b, order, mark));
        if (got >= 0) {
            bonds++;
            ends.add(new int[] {a, b});
        }
    }

    private int place() {
        return random.nextInt(2 * grid + 1) - grid;
    }

    private int wild() {
        int dice = random.nextInt(8);
        return dice == 0 ? Integer.MIN_VALUE : dice == 1 ? Integer.MAX_VALUE : dice == 2 ? 1001 : random.nextInt(14) - 3;
    }

    private void wrongCall() {
        int a = wild();
        int b = wild();
        int c = wild();
        String words = "(" + a + ", " + b + ", " + c + ")";
        if (random.nextBoolean()) {
            int narrow = random.nextInt(9) - 1;
            boolean done = x.mark(a, b, narrow);
            Check.due("mark(" + a + ", " + b + ", " + narrow + ")", done, model.mark(a, b, narrow));
        } else {
            Check.due("move" + words, x.move(a, b, c), model.move(a, b, c));
        }
        Check.due("hydrogens(" + a + ")", x.hydrogens(a), model.hydrogens(a));
        Check.due("sense(" + b + ")", x.sense(b), model.sense(b));
        Check.due("turn(" + c + ")", x.turn(c), model.turn(c));
        Check.due("at(" + a + ")", x.at(a), model.at(a));
        Check.due("row(" + b + ")", x.row(b), model.row(b));
    }

    private void look() {
        for (int a = -1; a <= 7; a++) {
            Check.due("hydrogens(" + a + ")", x.hydrogens(a), model.hydrogens(a));
            Check.due("sense(" + a + ")", x.sense(a), model.sense(a));
            Check.due("row(" + a + ")", x.row(a), model.row(a));
        }
        for (int b = -1; b <= 9; b++) {
            Check.due("turn(" + b + ")", x.turn(b), model.turn(b));
        }
        Check.due("compare()", x.compare(), model.compare());
        Check.due("senses()", x.senses(), model.senses());
        Check.due("chiral()", x.chiral(), model.chiral());
        Check.due("isomers()", x.isomers(), model.isomers());
        Check.due("senses() after isomers()", x.senses(), model.senses());
        int length = x.write();
        Check.due("write()", length, model.write());
        for (int i = length - 1; i <= length; i++) {
            Check.due("at(" + i + ")", x.at(i), model.at(i));
        }
    }

    private void readText() {
        int length = x.write();
        Check.due("write()", length, model.write());
        for (int i = -1; i <= length; i++) {
            Check.due("at(" + i + ")", x.at(i), model.at(i));
        }
    }

    private void compareAfterChanges() {
        Check.due("keep()", x.keep(), model.keep());
        Check.due("compare()", x.compare(), model.compare());
        Check.due("flip()", x.flip(), model.flip());
        Check.due("compare()", x.compare(), model.compare());
        if (bonds > 0) {
            int b = random.nextInt(bonds);
            int narrow = ends.get(b)[0];
            Check.due("mark(" + b + ", 1, " + narrow + ")", x.mark(b, 1, narrow), model.mark(b, 1, narrow));
            Check.due("compare()", x.compare(), model.compare());
        }
    }
}
