/** Promises 1 to 8: a new object, and what is drawn, changed and cleared. */
public final class DrawingTest {
    private static final int[] VALENCES = {4, 3, 2, 1, 1, 2};
    private static final int[] WILD = {Integer.MIN_VALUE, -1001, 1001, Integer.MAX_VALUE};

    public static void main(String[] args) {
        newObject();
        atoms();
        bonds();
        bondsInOrderOfRefusal();
        valences();
        moves();
        marks();
        clears();
        flips();
        hydrogens();
        Check.end();
    }

    private static void newObject() {
        Check.part("promise 1");
        StereoForms x = new StereoForms();
        Check.due("at(0)", x.at(0), StereoForms.BAD);
        Check.due("compare()", x.compare(), 3);
        Check.due("hydrogens(0)", x.hydrogens(0), StereoForms.BAD);
        Check.due("sense(0)", x.sense(0), StereoForms.BAD);
        Check.due("turn(0)", x.turn(0), StereoForms.BAD);
        Check.due("row(0)", x.row(0), StereoForms.BAD);
        Check.due("senses()", x.senses(), 0);
        Check.due("chiral()", x.chiral(), false);
        Check.due("isomers()", x.isomers(), 1);
        Check.due("flip()", x.flip(), 0);
        Check.due("clear()", x.clear(), 0);
        Check.due("move(0, 0, 0)", x.move(0, 0, 0), false);
        Check.due("mark(0, 0, 0)", x.mark(0, 0, 0), false);
        Check.due("bond(0, 1, 1, 0)", x.bond(0, 1, 1, 0), StereoForms.BAD);
    }

    private static void atoms() {
        Check.part("promise 2");
        StereoForms x = new StereoForms();
        Check.due("atom(-1, 0, 0)", x.atom(-1, 0, 0), StereoForms.BAD);
        Check.due("atom(6, 0, 0)", x.atom(6, 0, 0), StereoForms.BAD);
        Check.due("atom(MIN, 0, 0)", x.atom(Integer.MIN_VALUE, 0, 0), StereoForms.BAD);
        Check.due("atom(MAX, 0, 0)", x.atom(Integer.MAX_VALUE, 0, 0), StereoForms.BAD);
        for (int far : WILD) {
            Check.due("atom(0, far, 0)", x.atom(0, far, 0), StereoForms.BAD);
            Check.due("atom(0, 0, far)", x.atom(0, 0, far), StereoForms.BAD);
        }
        Check.due("the first number", x.atom(0, -1000, 1000), 0);
        Check.due("the second number", x.atom(5, 1000, -1000), 1);
        for (int a = 2; a < 7; a++) {
            Check.due("number " + a, x.atom(a - 2, 0, 0), a);
        }
        Check.due("an eighth", x.atom(0, 0, 0), StereoForms.FULL);
        Check.due("BAD before FULL: element", x.atom(6, 0, 0), StereoForms.BAD);
        Check.due("BAD before FULL: place", x.atom(0, 0, 1001), StereoForms.BAD);
        Check.due("how many were drawn", x.clear(), 7);
    }

    private static void bonds() {
        Check.part("promise 3");
        StereoForms x = carbons(7);
        Check.due("bond(-1, 0, 1, 0)", x.bond(-1, 0, 1, 0), StereoForms.BAD);
        Check.due("bond(0, -1, 1, 0)", x.bond(0, -1, 1, 0), StereoForms.BAD);
        Check.due("bond(7, 0, 1, 0)", x.bond(7, 0, 1, 0), StereoForms.BAD);
        Check.due("bond(0, 7, 1, 0)", x.bond(0, 7, 1, 0), StereoForms.BAD);
        Check.due("bond(0, MAX, 1, 0)", x.bond(0, Integer.MAX_VALUE, 1, 0), StereoForms.BAD);
        Check.due("bond(MIN, 0, 1, 0)", x.bond(Integer.MIN_VALUE, 0, 1, 0), StereoForms.BAD);
        Check.due("bond(3, 3, 1, 0)", x.bond(3, 3, 1, 0), StereoForms.BAD);
        Check.due("bond(0, 1, 0, 0)", x.bond(0, 1, 0, 0), StereoForms.BAD);
        Check.due("bond(0, 1, 4, 0)", x.bond(0, 1, 4, 0), StereoForms.BAD);
        Check.due("bond(0, 1, MIN, 0)", x.bond(0, 1, Integer.MIN_VALUE, 0), StereoForms.BAD);
        Check.due("bond(0, 1, 1, -1)", x.bond(0, 1, 1, -1), StereoForms.BAD);
        Check.due("bond(0, 1, 1, 3)", x.bond(0, 1, 1, 3), StereoForms.BAD);
        Check.due("what was refused is not there", x.hydrogens(0), 4);
        Check.due("bond(0, 1, 1, 2)", x.bond(0, 1, 1, 2), 0);
        Check.due("the same again", x.bond(0, 1, 1, 2), StereoForms.BAD);
        Check.due("the same from the other end", x.bond(1, 0, 1, 0), StereoForms.BAD);
        Check.due("bond(6, 5, 3, 1)", x.bond(6, 5, 3, 1), 1);
        Check.due("marks are drawn", x.flip(), 2);
    }

    private static void bondsInOrderOfRefusal() {
        Check.part("promise 3, BAD then FULL then VALENCE");
        StereoForms x = carbons(6);
        x.atom(3, 0, 0);
        for (int a = 0; a < 6; a++) {
            Check.due("bond " + a, x.bond(a, (a + 1) % 6, 1, 0), a);
        }
        Check.due("bond 6", x.bond(0, 2, 1, 0), 6);
        Check.due("bond 7", x.bond(0, 3, 1, 0), 7);
        Check.due("carbon 0 is full", x.bond(0, 4, 1, 0), StereoForms.VALENCE);
        Check.due("fluorine takes one", x.bond(6, 1, 2, 0), StereoForms.VALENCE);
        Check.due("bond 8", x.bond(6, 1, 1, 0), 8);
        Check.due("a tenth", x.bond(2, 4, 1, 0), StereoForms.FULL);
        Check.due("FULL before VALENCE", x.bond(0, 4, 1, 0), StereoForms.FULL);
        Check.due("BAD before FULL: there is one", x.bond(1, 0, 1, 0), StereoForms.BAD);
        Check.due("BAD before FULL: order", x.bond(2, 4, 4, 0), StereoForms.BAD);
        Check.due("BAD before FULL: mark", x.bond(2, 4, 1, 3), StereoForms.BAD);
        Check.due("BAD before FULL: atom", x.bond(2, 7, 1, 0), StereoForms.BAD);
    }

    private static void valences() {
        Check.part("promise 3, valences");
        for (int element = 0; element < 6; element++) {
            for (int order = 1; order <= 3; order++) {
                StereoForms x = carbons(1);
                x.atom(element, 50, 0);
                boolean fits = order <= VALENCES[element];
                String call = "order " + order + " with element " + element;
                Check.due(call, x.bond(0, 1, order, 0), fits ? 0 : StereoForms.VALENCE);
                Check.due(call + ", hydrogens", x.hydrogens(1), VALENCES[element] - (fits ? order : 0));
                Check.due(call + ", the carbon's", x.hydrogens(0), 4 - (fits ? order : 0));
            }
        }
        StereoForms x = carbons(3);
        Check.due("C#C", x.bond(0, 1, 3, 0), 0);
        Check.due("first atom too much", x.bond(1, 2, 2, 0), StereoForms.VALENCE);
        Check.due("second atom too much", x.bond(2, 1, 2, 0), StereoForms.VALENCE);
        Check.due("just enough", x.bond(2, 1, 1, 0), 1);
    }

    private static void moves() {
        Check.part("promise 4");
        StereoForms x = fluoride();
        Check.due("sense(0)", x.sense(0), 6);
        Check.due("move(-1, 0, 0)", x.move(-1, 0, 0), false);
        Check.due("move(4, 0, 0)", x.move(4, 0, 0), false);
        Check.due("move(MAX, 0, 0)", x.move(Integer.MAX_VALUE, 0, 0), false);
        for (int far : WILD) {
            Check.due("move(2, far, 0)", x.move(2, far, -80), false);
            Check.due("move(2, 0, far)", x.move(2, -50, far), false);
        }
        Check.due("nothing has changed", x.sense(0), 6);
        Check.due("the corners", x.move(2, -1000, -1000), true);
        Check.due("the corners", x.move(3, 1000, 1000), true);
        Check.due("on a line", x.sense(0), 5);
        Check.due("x alone", x.move(3, -1000, 1000), true);
        Check.due("the other way round", x.sense(0), 4);
        Check.due("senses() of the new place", x.senses(), 1 + 3 * (1 + 3 * (1 + 3 * 0)));
        Check.due("y alone", x.move(3, -1000, -1000), true);
        Check.due("two at one place", x.sense(0), 5);
        Check.due("senses() of that", x.senses(), 40);
    }

    private static void marks() {
        Check.part("promise 5");
        StereoForms x = fluoride();
        Check.due("mark(-1, 0, 0)", x.mark(-1, 0, 0), false);
        Check.due("mark(3, 0, 0)", x.mark(3, 0, 0), false);
        Check.due("mark(MIN, 0, 0)", x.mark(Integer.MIN_VALUE, 0, 0), false);
        Check.due("mark(0, -1, 0)", x.mark(0, -1, 0), false);
        Check.due("mark(0, 3, 0)", x.mark(0, 3, 0), false);
        Check.due("narrow is in no such bond", x.mark(0, 2, 2), false);
        Check.due("narrow is no atom", x.mark(0, 2, -1), false);
        Check.due("narrow is no atom", x.mark(0, 2, 4), false);
        Check.due("narrow is looked at for no mark too", x.mark(0, 0, 3), false);
        Check.due("nothing has changed", x.sense(0), 6);
        Check.due("mark(0, 2, 0)", x.mark(0, 2, 0), true);
        Check.due("a hash", x.sense(0), 4);
        Check.due("mark(0, 0, 0)", x.mark(0, 0, 0), true);
        Check.due("no mark", x.sense(0), 5);
        Check.due("none to flip", x.flip(), 0);
        Check.due("mark(0, 1, 1)", x.mark(0, 1, 1), true);
        Check.due("narrow at the fluorine", x.sense(0), 5);
        Check.due("but a mark", x.flip(), 1);
        Check.due("mark(0, 1, 0)", x.mark(0, 1, 0), true);
        Check.due("narrow at the centre again", x.sense(0), 6);
        Check.due("senses() of that", x.senses(), 67);
        Check.due("the bond is where it was", x.bond(1, 0, 1, 0), StereoForms.BAD);
    }

    private static void clears() {
        Check.part("promise 6");
        StereoForms x = fluoride();
        x.keep();
        x.write();
        String before = Check.text(x);
        Check.due("clear()", x.clear(), 4);
        Check.due("the text stays", Check.text(x), before);
        Check.due("no atoms", x.hydrogens(0), StereoForms.BAD);
        Check.due("no bonds", x.turn(0), StereoForms.BAD);
        Check.due("no rows", x.row(0), StereoForms.BAD);
        Check.due("no senses", x.senses(), 0);
        Check.due("no marks", x.flip(), 0);
        Check.due("another form than the kept one", x.compare(), 3);
        Check.due("clear() again", x.clear(), 0);
        drawFluoride(x);
        Check.due("what was kept stays", x.compare(), 0);
        Check.due("the bonds are new", x.bond(0, 1, 1, 0), StereoForms.BAD);
        Check.due("write()", x.write(), before.length());
        Check.due("the same text", Check.text(x), before);
        x.clear();
        carbonsInto(x, 4);
        Check.due("no old bond is left", x.hydrogens(0), 4);
        Check.due("nor in the way", x.bond(0, 1, 1, 0), 0);
    }

    private static void flips() {
        Check.part("promise 7");
        StereoForms x = carbons(5);
        x.bond(0, 1, 1, 1);
        x.bond(0, 2, 1, 2);
        x.bond(0, 3, 1, 0);
        x.bond(3, 4, 2, 1);
        Check.due("marks on any bond count", x.flip(), 3);
        Check.due("flip() again", x.flip(), 3);
        StereoForms y = fluoride();
        Check.due("one wedge", y.flip(), 1);
        Check.due("now a hash", y.sense(0), 4);
        Check.due("senses() of that", y.senses(), 13);
        Check.due("one hash", y.flip(), 1);
        Check.due("now a wedge", y.sense(0), 6);
        Check.due("senses() of that", y.senses(), 67);
    }

    private static void hydrogens() {
        Check.part("promise 8");
        StereoForms x = new StereoForms();
        for (int element = 0; element < 6; element++) {
            x.atom(element, 0, 0);
            Check.due("element " + element, x.hydrogens(element), VALENCES[element]);
        }
        x.bond(0, 1, 2, 0);
        x.bond(0, 2, 1, 0);
        x.bond(5, 0, 1, 0);
        Check.due("hydrogens(0)", x.hydrogens(0), 0);
        Check.due("hydrogens(1)", x.hydrogens(1), 1);
        Check.due("hydrogens(2)", x.hydrogens(2), 1);
        Check.due("hydrogens(5)", x.hydrogens(5), 1);
        Check.due("hydrogens(-1)", x.hydrogens(-1), StereoForms.BAD);
        Check.due("hydrogens(6)", x.hydrogens(6), StereoForms.BAD);
        Check.due("hydrogens(MIN)", x.hydrogens(Integer.MIN_VALUE), StereoForms.BAD);
        Check.due("hydrogens(MAX)", x.hydrogens(Integer.MAX_VALUE), StereoForms.BAD);
    }

    private static StereoForms carbons(int count) {
        StereoForms x = new StereoForms();
        carbonsInto(x, count);
        return x;
    }

    private static void carbonsInto(StereoForms x, int count) {
        for (int a = 0; a < count; a++) {
            x.atom(0, 100 * a, a % 2 * 60);
        }
    }

    private static StereoForms fluoride() {
        StereoForms x = new StereoForms();
        drawFluoride(x);
        return x;
    }

    /** A carbon with fluorine on a wedge, chlorine and sulphur. */
    private static void drawFluoride(StereoForms x) {
        x.atom(0, 0, 0);
        x.atom(3, 100, 0);
        x.atom(4, -50, 80);
        x.atom(5, -50, -80);
        x.bond(0, 1, 1, 1);
        x.bond(0, 2, 1, 0);
        x.bond(0, 3, 1, 0);
    }
}
