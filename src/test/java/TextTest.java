/** Promises 17 and 18: the text of the form. */
public final class TextTest {
    public static void main(String[] args) {
        elements();
        orders();
        senses();
        hinges();
        textStays();
        noSuchCharacter();
        Check.end();
    }

    private static void elements() {
        Check.part("promise 17, elements");
        textIs("", new int[0]);
        textIs("C;N;O;F;Cl;S;", new int[] {5, 4, 3, 2, 1, 0});
        textIs("C;C;C;C;C;C;C;", new int[] {0, 0, 0, 0, 0, 0, 0});
    }

    private static void orders() {
        Check.part("promise 17, orders");
        textIs("C;O(0);", new int[] {2, 0}, new int[] {0, 1, 1});
        textIs("C;O(0=);", new int[] {2, 0}, new int[] {0, 1, 2});
        textIs("C;N(0#);", new int[] {1, 0}, new int[] {0, 1, 3});
        textIs("N;N(0#);", new int[] {1, 1}, new int[] {0, 1, 3});
        textIs("C;S(0=);S(0=);", new int[] {5, 0, 5}, new int[] {0, 1, 2}, new int[] {1, 2, 2});
        textIs("C;C(0);C(0)(1);", new int[] {0, 0, 0}, new int[] {2, 0, 1}, new int[] {0, 1, 1}, new int[] {1, 2, 1});
        textIs("C;C;C(0)(1);C(0)(1);", new int[] {0, 0, 0, 0},
                new int[] {0, 1, 1}, new int[] {1, 2, 1}, new int[] {2, 3, 1}, new int[] {3, 0, 1});
    }

    private static void senses() {
        Check.part("promise 17, senses of centres");
        StereoForms x = centre();
        textIs("C@@;F(0);Cl(0);S(0);", x);
        x.flip();
        textIs("C@;F(0);Cl(0);S(0);", x);
        x.mark(0, 0, 3);
        textIs("C;F(0);Cl(0);S(0);", x);
    }

    private static void hinges() {
        Check.part("promise 17, senses of hinges");
        StereoForms x = new StereoForms();
        x.atom(3, 150, 80);
        x.atom(0, 0, 0);
        x.atom(4, -50, 80);
        x.atom(0, 100, 0);
        x.bond(1, 3, 2, 0);
        x.bond(0, 3, 1, 0);
        x.bond(2, 1, 1, 0);
        textIs("C;C(0=c);F(0);Cl(1);", x);
        x.move(0, 150, -80);
        textIs("C;C(0=t);F(0);Cl(1);", x);
        x.move(0, 150, 0);
        textIs("C;C(0=);F(0);Cl(1);", x);
    }

    private static void textStays() {
        Check.part("promise 17, only write() makes the text");
        StereoForms x = centre();
        Check.due("none before", x.at(0), StereoForms.BAD);
        x.senses();
        x.keep();
        Check.due("none from other calls", x.at(0), StereoForms.BAD);
        x.write();
        x.flip();
        x.atom(2, 0, 0);
        x.isomers();
        x.chiral();
        x.keep();
        x.compare();
        Check.due("the text stays", Check.text(x), "C@@;F(0);Cl(0);S(0);");
        x.clear();
        Check.due("also without atoms", Check.text(x), "C@@;F(0);Cl(0);S(0);");
        x.atom(2, 0, 0);
        Check.due("a shorter one", x.write(), 2);
        Check.due("a shorter one", Check.text(x), "O;");
        x.clear();
        Check.due("an empty one", x.write(), 0);
        Check.due("an empty one", x.at(0), StereoForms.BAD);
    }

    private static void noSuchCharacter() {
        Check.part("promise 18");
        StereoForms x = centre();
        Check.due("write()", x.write(), 20);
        Check.due("at(0)", x.at(0), 'C');
        Check.due("at(1)", x.at(1), '@');
        Check.due("at(19)", x.at(19), ';');
        Check.due("at(20)", x.at(20), StereoForms.BAD);
        Check.due("at(-1)", x.at(-1), StereoForms.BAD);
        Check.due("at(MIN)", x.at(Integer.MIN_VALUE), StereoForms.BAD);
        Check.due("at(MAX)", x.at(Integer.MAX_VALUE), StereoForms.BAD);
    }

    /** Carbon, the last atom, with a wedge to the first, a fluorine, chlorine and sulphur. */
    private static StereoForms centre() {
        StereoForms x = new StereoForms();
        x.atom(3, 100, 0);
        x.atom(4, -50, 80);
        x.atom(5, -50, -80);
        x.atom(0, 0, 0);
        x.bond(3, 0, 1, 1);
        x.bond(3, 1, 1, 0);
        x.bond(2, 3, 1, 0);
        return x;
    }

    private static void textIs(String text, int[] elements, int[]... bonds) {
        StereoForms x = new StereoForms();
        for (int a = 0; a < elements.length; a++) {
            x.atom(elements[a], 10 * a, a * a);
        }
        for (int[] bond : bonds) {
            x.bond(bond[0], bond[1], bond[2], 0);
        }
        textIs(text, x);
    }

    private static void textIs(String text, StereoForms x) {
        Check.due("write() for " + text, x.write(), text.length());
        Check.due("the text", Check.text(x), text);
    }
}
