/** Promises 15 and 16: a form is kept, and compared with that of the drawing. */
public final class KeepTest {
    public static void main(String[] args) {
        keep();
        nothingKept();
        mirrored();
        sameRowsOnly();
        otherRows();
        otherNumbers();
        Check.end();
    }

    private static void keep() {
        Check.part("promise 15");
        StereoForms x = new StereoForms();
        Check.due("no atoms", x.keep(), 0);
        Check.due("compare()", x.compare(), 0);
        for (int n = 1; n <= 7; n++) {
            x.atom(n % 6, 0, 0);
            Check.due("not the one before", x.compare(), 3);
            Check.due(n + " atoms", x.keep(), n);
            Check.due("compare()", x.compare(), 0);
        }
        x.bond(0, 1, 1, 0);
        Check.due("what is kept stays as it was", x.compare(), 3);
        x.clear();
        Check.due("also without atoms", x.compare(), 3);
        Check.due("in place of the one before", x.keep(), 0);
        Check.due("compare()", x.compare(), 0);
    }

    private static void nothingKept() {
        Check.part("promise 16, nothing kept");
        StereoForms x = new StereoForms();
        Check.due("no atoms", x.compare(), 3);
        x.atom(0, 0, 0);
        Check.due("an atom", x.compare(), 3);
        x.clear();
        x.write();
        x.isomers();
        Check.due("no atoms again", x.compare(), 3);
    }

    private static void mirrored() {
        Check.part("promise 16, mirrored");
        StereoForms x = new StereoForms();
        draw(x, 1, 80);
        x.keep();
        Check.due("the same", x.compare(), 0);
        x.flip();
        Check.due("mirrored", x.compare(), 2);
        x.flip();
        Check.due("the same again", x.compare(), 0);
        x.mark(0, 0, 0);
        Check.due("the centre is flat", x.compare(), 1);
        x.keep();
        Check.due("flat itself", x.compare(), 0);
        x.flip();
        Check.due("its own mirror image", x.compare(), 0);
    }

    /** To mirror turns the centre, not the hinge. */
    private static void sameRowsOnly() {
        Check.part("promise 16, the rows alone");
        StereoForms x = new StereoForms();
        draw(x, 1, 80);
        x.keep();
        x.move(3, 150, -80);
        Check.due("the hinge turned", x.compare(), 1);
        x.flip();
        Check.due("hinge and centre turned", x.compare(), 1);
        x.move(3, 150, 80);
        Check.due("the centre turned", x.compare(), 2);
    }

    private static void otherRows() {
        Check.part("promise 16, other rows");
        StereoForms x = new StereoForms();
        x.atom(0, 0, 0);
        x.keep();
        x.atom(5, 0, 0);
        Check.due("an atom more", x.compare(), 3);
        x.keep();
        x.clear();
        x.atom(0, 0, 0);
        Check.due("an atom less", x.compare(), 3);
        x.atom(2, 0, 0);
        Check.due("another element", x.compare(), 3);
        x.clear();
        x.atom(5, 100, 0);
        x.atom(0, 100, 0);
        Check.due("the same from the other end", x.compare(), 0);
        x.bond(0, 1, 1, 0);
        Check.due("a bond", x.compare(), 3);
        x.keep();
        x.clear();
        x.atom(5, 100, 0);
        x.atom(0, 100, 0);
        x.bond(0, 1, 2, 0);
        Check.due("another order", x.compare(), 3);
    }

    private static void otherNumbers() {
        Check.part("promise 16, other numbers");
        StereoForms x = new StereoForms();
        draw(x, 1, 80);
        x.keep();
        x.clear();
        // The same, with the numbers backwards and the plane turned by a quarter.
        x.atom(4, -160, 0);
        x.atom(3, -80, -150);
        x.atom(3, -80, 150);
        x.atom(0, 0, 100);
        x.atom(0, 0, 0);
        x.atom(0, -80, -50);
        x.bond(5, 0, 1, 0);
        x.bond(5, 1, 1, 1);
        x.bond(3, 2, 1, 0);
        x.bond(4, 3, 2, 0);
        x.bond(4, 5, 1, 0);
        Check.due("the same", x.compare(), 0);
        x.mark(1, 2, 5);
        Check.due("mirrored", x.compare(), 2);
        x.move(2, 80, 150);
        Check.due("the hinge turned", x.compare(), 1);
    }

    /** FCl(H)C-C=CF: a mark to the centre's fluorine, the hinge's fluorine above or below. */
    private static void draw(StereoForms x, int mark, int above) {
        x.atom(0, -50, 80);
        x.atom(0, 0, 0);
        x.atom(0, 100, 0);
        x.atom(3, 150, above);
        x.atom(3, -150, 80);
        x.atom(4, 0, 160);
        x.bond(0, 4, 1, mark);
        x.bond(0, 1, 1, 0);
        x.bond(1, 2, 2, 0);
        x.bond(2, 3, 1, 0);
        x.bond(0, 5, 1, 0);
    }
}
