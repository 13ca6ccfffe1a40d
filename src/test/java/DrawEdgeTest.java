import java.util.function.Supplier;

/**
 * The edges of promises 1 to 8: the last value that is taken, the first that is refused, and what
 * the calls after a refused one show. Each part is named by the document's words.
 */
public final class DrawEdgeTest {
    private static final int BAD = StereoForms.BAD;
    private static final int FULL = StereoForms.FULL;
    private static final int VALENCE = StereoForms.VALENCE;
    private static final int[] NO_PLACES = {-1001, 1001, Sketch.MIN, Sketch.MAX, Sketch.MIN + 1000, 65536};

    public static void main(String[] args) {
        nothingDrawn();
        nothingKept();
        noText();
        objectsApart();
        elements();
        placesOfAtoms();
        fullOfAtoms();
        noAtomToBond();
        sameAtom();
        orders();
        marksOfBonds();
        bondBetweenThem();
        fullOfBonds();
        tooMuchForTheFirst();
        tooMuchForTheSecond();
        noAtomToMove();
        placesOfMoves();
        noBondToMark();
        marks();
        narrow();
        narrowMayChange();
        clearOfNone();
        clearOfAll();
        roomAfterClear();
        keptAndTextAfterClear();
        flipOfNone();
        flipOfAll();
        flipLeavesUnmarked();
        hydrogens();
        noAtomWithHydrogens();
        Check.end();
    }

    private static void nothingDrawn() {
        Check.part("1: nothing drawn");
        StereoForms x = new StereoForms();
        Check.due("hydrogens(0)", x.hydrogens(0), BAD);
        Check.due("sense(0)", x.sense(0), BAD);
        Check.due("turn(0)", x.turn(0), BAD);
        Check.due("row(0)", x.row(0), BAD);
        Check.due("flip()", x.flip(), 0);
        Check.due("clear()", x.clear(), 0);
        Check.due("keep()", x.keep(), 0);
        Check.due("write()", x.write(), 0);
        Check.due("the first atom", x.atom(0, 0, 0), 0);
        Check.due("the second", x.atom(0, 0, 0), 1);
        Check.due("the first bond", x.bond(0, 1, 1, 0), 0);
    }

    private static void nothingKept() {
        Check.part("1: nothing kept");
        StereoForms x = new StereoForms();
        Check.due("compare(), not as if no atoms were kept", x.compare(), 3);
        x.keep();
        Check.due("compare() when they are", x.compare(), 0);
    }

    private static void noText() {
        Check.part("1: no text");
        StereoForms x = new StereoForms();
        for (int i : new int[] {0, 1, -1, 79, 80, Sketch.MAX, Sketch.MIN}) {
            Check.due("at(" + i + ")", x.at(i), BAD);
        }
    }

    private static void objectsApart() {
        Check.part("1: a new object beside one that is in use");
        String ofNew = Sketch.seen(new StereoForms());
        StereoForms used = Sketch.fluoride();
        String ofUsed = Sketch.seen(used);
        StereoForms x = new StereoForms();
        Check.due("the new one", Sketch.seen(x), ofNew);
        Sketch.drawCarbons(x, 7);
        x.keep();
        x.write();
        Check.due("the one in use", Sketch.seen(used), ofUsed);
    }

    private static void elements() {
        Check.part("2: BAD when element is not 0 .. 5");
        for (int element : new int[] {-1, 6, Sketch.MIN, Sketch.MAX, 256}) {
            Sketch.refused("atom(" + element + ", 0, 0)", BAD, Sketch::fluoride, x -> x.atom(element, 0, 0));
            Sketch.refused("atom(" + element + ", 0, 0), the first", BAD, StereoForms::new, x -> x.atom(element, 0, 0));
        }
        StereoForms x = new StereoForms();
        for (int element = 0; element <= 5; element++) {
            Check.due("atom(" + element + ", 0, 0)", x.atom(element, 0, 0), element);
            Check.due("its valence", x.hydrogens(element), Sketch.VALENCES[element]);
        }
    }

    private static void placesOfAtoms() {
        Check.part("2: BAD when x or y is not from -1000 to 1000");
        for (int far : NO_PLACES) {
            Sketch.refused("atom(0, " + far + ", 0)", BAD, Sketch::fluoride, x -> x.atom(0, far, 0));
            Sketch.refused("atom(0, 0, " + far + ")", BAD, Sketch::fluoride, x -> x.atom(0, 0, far));
            Sketch.refused("atom(0, far, far)", BAD, Sketch::fluoride, x -> x.atom(0, far, far));
        }
        for (int px : new int[] {-1000, -999, 0, 999, 1000}) {
            for (int py : new int[] {-1000, -999, 0, 999, 1000}) {
                isExactlyAt(Sketch.hinge(px, py), px, py);
            }
        }
    }

    private static void isExactlyAt(StereoForms x, int px, int py) {
        String place = px + ", " + py;
        Check.due("at " + place, Sketch.isAt(x, px, py), true);
        Check.due("not beside " + place, Sketch.isAt(x, px > 0 ? px - 1 : px + 1, py), false);
        Check.due("nor above or below " + place, Sketch.isAt(x, px, py > 0 ? py - 1 : py + 1), false);
    }

    private static void fullOfAtoms() {
        Check.part("2: FULL");
        Check.due("the seventh", Sketch.carbons(6).atom(5, 1000, -1000), 6);
        for (int element = 0; element <= 5; element++) {
            int eighth = element;
            Sketch.refused("an eighth, of element " + element, FULL, () -> Sketch.nineBonds(1), x -> x.atom(eighth, 0, 0));
        }
        Sketch.refused("BAD before FULL: element", BAD, () -> Sketch.carbons(7), x -> x.atom(6, 0, 0));
        Sketch.refused("BAD before FULL: x", BAD, () -> Sketch.carbons(7), x -> x.atom(0, -1001, 0));
        Sketch.refused("BAD before FULL: y", BAD, () -> Sketch.carbons(7), x -> x.atom(0, 0, 1001));
        StereoForms x = Sketch.carbons(7);
        for (int k = 0; k < 20; k++) {
            Check.due("FULL again", x.atom(0, 0, 0), FULL);
        }
        Check.due("there are seven still", x.clear(), 7);
    }

    private static void noAtomToBond() {
        Check.part("3: BAD when a or b is no atom");
        for (int a : new int[] {-1, 4, 7, Sketch.MIN, Sketch.MAX}) {
            Sketch.refused("bond(" + a + ", 0, 1, 0)", BAD, Sketch::fluoride, x -> x.bond(a, 0, 1, 0));
            Sketch.refused("bond(0, " + a + ", 1, 0)", BAD, Sketch::fluoride, x -> x.bond(0, a, 1, 0));
            Sketch.refused("bond(" + a + ", " + a + ", 1, 0)", BAD, Sketch::fluoride, x -> x.bond(a, a, 1, 0));
        }
        Sketch.refused("without atoms", BAD, StereoForms::new, x -> x.bond(0, 1, 1, 0));
        Sketch.refused("with one", BAD, () -> Sketch.carbons(1), x -> x.bond(0, 1, 1, 0));
        Check.due("with two", Sketch.carbons(2).bond(0, 1, 1, 0), 0);
        Check.due("from the last of seven", Sketch.carbons(7).bond(6, 0, 1, 0), 0);
        Check.due("to the last of seven", Sketch.carbons(7).bond(0, 6, 1, 0), 0);
        Sketch.refused("behind the last of seven", BAD, () -> Sketch.carbons(7), x -> x.bond(7, 0, 1, 0));
        Sketch.refused("behind the last of seven", BAD, () -> Sketch.carbons(7), x -> x.bond(0, 7, 1, 0));
        StereoForms x = Sketch.carbons(7);
        x.clear();
        Sketch.drawCarbons(x, 2);
        Check.due("an atom that was there before clear()", x.bond(0, 2, 1, 0), BAD);
    }

    private static void sameAtom() {
        Check.part("3: BAD when they are the same");
        for (int a = 0; a < 7; a++) {
            int same = a;
            Sketch.refused("bond(" + a + ", " + a + ", 1, 0)", BAD, () -> Sketch.carbons(7), x -> x.bond(same, same, 1, 0));
        }
    }

    private static void orders() {
        Check.part("3: BAD when order is not 1 .. 3");
        for (int order : new int[] {0, 4, -1, Sketch.MIN, Sketch.MAX}) {
            Sketch.refused("bond(0, 1, " + order + ", 0)", BAD, () -> Sketch.carbons(2), x -> x.bond(0, 1, order, 0));
        }
        for (int order = 1; order <= 3; order++) {
            StereoForms x = Sketch.carbons(2);
            Check.due("bond(0, 1, " + order + ", 0)", x.bond(0, 1, order, 0), 0);
            Check.due("hydrogens(0)", x.hydrogens(0), 4 - order);
            Check.due("hydrogens(1)", x.hydrogens(1), 4 - order);
        }
        Sketch.refused("BAD before VALENCE", BAD, Sketch::fluoride, x -> x.bond(1, 2, 4, 0));
    }

    private static void marksOfBonds() {
        Check.part("3: BAD when mark is not 0 .. 2");
        for (int mark : new int[] {-1, 3, Sketch.MIN, Sketch.MAX}) {
            Sketch.refused("bond(0, 1, 1, " + mark + ")", BAD, () -> Sketch.carbons(2), x -> x.bond(0, 1, 1, mark));
        }
        int[] senses = {5, 6, 4};
        for (int mark = 0; mark <= 2; mark++) {
            StereoForms x = Sketch.atoms(0, 0, 0, 3, 100, 0, 4, -50, 80, 5, -50, -80);
            Sketch.bonds(x, 0, 1, 1, mark, 0, 2, 1, 0, 0, 3, 1, 0);
            Check.due("bond(0, 1, 1, " + mark + "), sense(0)", x.sense(0), senses[mark]);
        }
        Sketch.refused("BAD before VALENCE", BAD, Sketch::fluoride, x -> x.bond(1, 2, 1, 3));
    }

    private static void bondBetweenThem() {
        Check.part("3: BAD when there is a bond between them");
        for (int order = 1; order <= 3; order++) {
            int again = order;
            Sketch.refused("bond(0, 1, " + order + ", 2)", BAD, Sketch::fluoride, x -> x.bond(0, 1, again, 2));
            Sketch.refused("bond(1, 0, " + order + ", 1)", BAD, Sketch::fluoride, x -> x.bond(1, 0, again, 1));
        }
        Sketch.refused("the ninth again", BAD, () -> Sketch.nineBonds(1), x -> x.bond(5, 2, 1, 0));
        StereoForms x = Sketch.carbons(3);
        Check.due("bond(0, 1, 1, 0)", x.bond(0, 1, 1, 0), 0);
        Check.due("bond(1, 2, 1, 0)", x.bond(1, 2, 1, 0), 1);
        Check.due("one between atoms that both have another", x.bond(2, 0, 1, 0), 2);
    }

    private static void fullOfBonds() {
        Check.part("3: FULL");
        Sketch.refused("a tenth", FULL, () -> Sketch.nineBonds(2), x -> x.bond(1, 4, 1, 1));
        Sketch.refused("FULL before VALENCE", FULL, () -> Sketch.nineBonds(2), x -> x.bond(0, 2, 3, 0));
        Sketch.refused("BAD before FULL: a", BAD, () -> Sketch.nineBonds(2), x -> x.bond(-1, 4, 1, 0));
        Sketch.refused("BAD before FULL: b", BAD, () -> Sketch.nineBonds(2), x -> x.bond(1, 7, 1, 0));
        Sketch.refused("BAD before FULL: the same", BAD, () -> Sketch.nineBonds(2), x -> x.bond(1, 1, 1, 0));
        Sketch.refused("BAD before FULL: order", BAD, () -> Sketch.nineBonds(2), x -> x.bond(1, 4, 0, 0));
        Sketch.refused("BAD before FULL: mark", BAD, () -> Sketch.nineBonds(2), x -> x.bond(1, 4, 1, -1));
        Sketch.refused("BAD before FULL: there is one", BAD, () -> Sketch.nineBonds(2), x -> x.bond(1, 0, 1, 0));
        StereoForms x = Sketch.nineBonds(0);
        Check.due("the ninth is there", x.turn(8), 1);
        for (int k = 0; k < 20; k++) {
            Check.due("FULL again", x.bond(1, 4, 1, 0), FULL);
        }
        Check.due("and a tenth is not", x.turn(9), BAD);
        Check.due("nor has atom 1 less", x.hydrogens(1), 2);
    }

    private static void tooMuchForTheFirst() {
        Check.part("3: VALENCE when the first would have too much");
        tooMuch(true);
    }

    private static void tooMuchForTheSecond() {
        Check.part("3: VALENCE when the second would have too much");
        tooMuch(false);
    }

    /** What is left of an element's valence is taken, one more refused; the others have enough. */
    private static void tooMuch(boolean first) {
        for (int element = 0; element <= 5; element++) {
            int valence = Sketch.VALENCES[element];
            for (int used = Math.max(0, valence - 3); used <= valence; used++) {
                int left = valence - used;
                Supplier<StereoForms> drawing = withUsed(element, used);
                String call = "element " + element + ", " + used + " used, order ";
                if (left > 0) {
                    StereoForms x = drawing.get();
                    int number = first ? x.bond(0, 6, left, 1) : x.bond(6, 0, left, 1);
                    Check.due(call + left, number, used);
                    Check.due(call + left + ", hydrogens(0)", x.hydrogens(0), 0);
                }
                if (left < 3) {
                    Sketch.refused(call + (left + 1), VALENCE, drawing,
                            x -> first ? x.bond(0, 6, left + 1, 1) : x.bond(6, 0, left + 1, 1));
                }
            }
        }
    }

    /** Atom 0 of an element, with so many bonds to carbons; carbon 6 has none. */
    private static Supplier<StereoForms> withUsed(int element, int used) {
        return () -> {
            StereoForms x = Sketch.atoms(element, 0, 0, 0, 90, 1, 0, 3, 70, 0, -90, 5, 0, 4, -80, 0, 60, 60, 0, -60, 50);
            for (int k = 0; k < used; k++) {
                Check.due("bond " + k, x.bond(0, 1 + k, 1, 1), k);
            }
            return x;
        };
    }

    private static void noAtomToMove() {
        Check.part("4: false, changing nothing, when there is none such");
        for (int a : new int[] {-1, 4, 7, Sketch.MIN, Sketch.MAX}) {
            Sketch.refused("move(" + a + ", 0, 0)", Sketch::fluoride, x -> x.move(a, 0, 0));
        }
        Sketch.refused("without atoms", StereoForms::new, x -> x.move(0, 0, 0));
        Sketch.refused("behind the last of seven", () -> Sketch.carbons(7), x -> x.move(7, 0, 0));
        Check.due("the last of seven", Sketch.carbons(7).move(6, 0, 0), true);
        StereoForms x = Sketch.fluoride();
        Check.due("move(3, 50, 81)", x.move(3, 50, 81), true);
        Check.due("the last of four has moved", x.sense(0), 4);
        Check.due("move(0, 150, 82)", x.move(0, 150, 82), true);
        Check.due("and the first of four, to a line with two others", x.sense(0), 5);
    }

    private static void placesOfMoves() {
        Check.part("4: false, changing nothing, when x or y is not from -1000 to 1000");
        for (int far : NO_PLACES) {
            Sketch.refused("move(3, " + far + ", 80)", Sketch::fluoride, x -> x.move(3, far, 80));
            Sketch.refused("move(3, 80, " + far + ")", Sketch::fluoride, x -> x.move(3, 80, far));
            StereoForms x = Sketch.hinge(1000, -1000);
            Check.due("move(2, " + far + ", 0)", x.move(2, far, 0), false);
            Check.due("move(2, 0, " + far + ")", x.move(2, 0, far), false);
            Check.due("move(2, far, far)", x.move(2, far, far), false);
            isExactlyAt(x, 1000, -1000);
        }
        for (int px : new int[] {-1000, -999, 0, 999, 1000}) {
            for (int py : new int[] {-1000, -999, 0, 999, 1000}) {
                StereoForms x = Sketch.hinge(3, 5);
                Check.due("move(2, " + px + ", " + py + ")", x.move(2, px, py), true);
                isExactlyAt(x, px, py);
            }
        }
    }

    private static void noBondToMark() {
        Check.part("5: false, changing nothing, when there is no such bond");
        for (int bond : new int[] {-1, 3, 9, Sketch.MIN, Sketch.MAX}) {
            for (int narrow = 0; narrow < 4; narrow++) {
                int end = narrow;
                Sketch.refused("mark(" + bond + ", 2, " + narrow + ")", Sketch::fluoride, x -> x.mark(bond, 2, end));
            }
        }
        Sketch.refused("without bonds", () -> Sketch.carbons(7), x -> x.mark(0, 1, 0));
        Sketch.refused("behind the last of nine", () -> Sketch.nineBonds(1), x -> x.mark(9, 2, 0));
        StereoForms x = Sketch.nineBonds(0);
        Check.due("the last of nine", x.mark(8, 1, 5), true);
        Check.due("has a mark", x.flip(), 1);
        x.clear();
        Sketch.drawCarbons(x, 7);
        Check.due("one that was there before clear()", x.mark(8, 1, 5), false);
        Check.due("has no mark", x.flip(), 0);
    }

    private static void marks() {
        Check.part("5: false, changing nothing, when mark is not 0 .. 2");
        for (int mark : new int[] {-1, 3, Sketch.MIN, Sketch.MAX}) {
            for (int narrow = 0; narrow < 2; narrow++) {
                int end = narrow;
                Sketch.refused("mark(0, " + mark + ", " + narrow + ")", Sketch::fluoride, x -> x.mark(0, mark, end));
            }
        }
        int[] senses = {5, 6, 4};
        for (int mark = 0; mark <= 2; mark++) {
            StereoForms x = Sketch.fluoride();
            Check.due("mark(0, " + mark + ", 0)", x.mark(0, mark, 0), true);
            Check.due("sense(0)", x.sense(0), senses[mark]);
            Check.due("flip()", x.flip(), mark == 0 ? 0 : 1);
        }
    }

    private static void narrow() {
        Check.part("5: false, changing nothing, when narrow is none of its atoms");
        for (int narrow : new int[] {-1, 2, 3, 4, 7, Sketch.MIN, Sketch.MAX}) {
            for (int mark = 0; mark <= 2; mark++) {
                int other = mark;
                Sketch.refused("mark(0, " + mark + ", " + narrow + ")", Sketch::fluoride, x -> x.mark(0, other, narrow));
            }
        }
        Check.due("its first atom", Sketch.fluoride().mark(0, 0, 0), true);
        Check.due("its second atom", Sketch.fluoride().mark(0, 0, 1), true);
    }

    private static void narrowMayChange() {
        Check.part("5: narrow tells which of its atoms is first then (it may change)");
        StereoForms x = Sketch.fluoride();
        Check.due("mark(0, 1, 1)", x.mark(0, 1, 1), true);
        Check.due("narrow at the fluorine", x.sense(0), 5);
        Check.due("the form has changed", x.compare(), 1);
        Check.due("mark(0, 2, 1)", x.mark(0, 2, 1), true);
        Check.due("a hash there", x.sense(0), 5);
        Check.due("mark(0, 2, 0)", x.mark(0, 2, 0), true);
        Check.due("narrow at the carbon again", x.sense(0), 4);
        Check.due("mirrored", x.compare(), 2);
        Check.due("mark(0, 1, 0)", x.mark(0, 1, 0), true);
        Check.due("as it was", x.compare(), 0);
        Check.due("there is one bond between them still", x.bond(0, 1, 1, 0), BAD);
        Check.due("and three in all", x.turn(3), BAD);
        Check.due("with its order", x.hydrogens(0), 1);
    }

    private static void clearOfNone() {
        Check.part("6: how many atoms there were, when there were none");
        StereoForms x = new StereoForms();
        Check.due("clear()", x.clear(), 0);
        Check.due("clear()", x.clear(), 0);
        Check.due("the first atom", x.atom(0, 0, 0), 0);
    }

    private static void clearOfAll() {
        Check.part("6: all atoms and bonds go: how many atoms there were");
        for (int n = 1; n <= 7; n++) {
            Check.due(n + " atoms", Sketch.carbons(n).clear(), n);
        }
        StereoForms x = Sketch.nineBonds(1);
        Check.due("seven atoms, nine bonds", x.clear(), 7);
        Check.due("all that is to be seen", Sketch.seen(x), Sketch.seen(new StereoForms()));
        Check.due("no marks", x.flip(), 0);
        Check.due("clear() again", x.clear(), 0);
    }

    private static void roomAfterClear() {
        Check.part("6: after clear() there is room again");
        StereoForms x = Sketch.nineBonds(1);
        Check.due("FULL of atoms", x.atom(0, 0, 0), FULL);
        Check.due("FULL of bonds", x.bond(1, 4, 1, 0), FULL);
        x.clear();
        Sketch.drawCarbons(x, 7);
        for (int a = 0; a < 7; a++) {
            Check.due("hydrogens(" + a + ")", x.hydrogens(a), 4);
        }
        Check.due("no old marks", x.flip(), 0);
        Sketch.drawNineBonds(x, 2);
        Check.due("new marks", x.flip(), 9);
        Check.due("FULL of atoms again", x.atom(0, 0, 0), FULL);
        Check.due("FULL of bonds again", x.bond(1, 4, 1, 0), FULL);
        Check.due("as if drawn once", Sketch.seen(x), Sketch.seen(Sketch.nineBonds(1)));
    }

    private static void keptAndTextAfterClear() {
        Check.part("6: what is kept, and the text, stay");
        StereoForms x = Sketch.fluoride();
        Check.due("clear()", x.clear(), 4);
        Check.due("the text", Check.text(x), "C@@;F(0);Cl(0);S(0);");
        Check.due("another form", x.compare(), 3);
        x.atom(5, 0, 0);
        x.atom(4, 100, 0);
        x.atom(3, -50, -80);
        x.atom(0, 20, 10);
        Sketch.bonds(x, 3, 0, 1, 1, 1, 3, 1, 0, 2, 3, 1, 0);
        // F (-70, -90, 0), Cl (80, -10, 0), S (-20, -10, 1): 1 (-70 * -10 - -90 * 80) > 0, as before
        Check.due("the kept form, drawn in another way", x.compare(), 0);
        Check.due("flip()", x.flip(), 1);
        Check.due("and mirrored", x.compare(), 2);
        Check.due("the text is not of this drawing", Check.text(x), "C@@;F(0);Cl(0);S(0);");
    }

    private static void flipOfNone() {
        Check.part("7: how many there are, when there are none");
        Check.due("no atoms", new StereoForms().flip(), 0);
        Check.due("no bonds", Sketch.carbons(7).flip(), 0);
        Check.due("nine bonds without marks", Sketch.nineBonds(0).flip(), 0);
    }

    private static void flipOfAll() {
        Check.part("7: how many there are, when all nine bonds have marks");
        StereoForms wedges = Sketch.nineBonds(1);
        StereoForms hashes = Sketch.nineBonds(2);
        String ofWedges = Sketch.seen(wedges);
        String ofHashes = Sketch.seen(hashes);
        Check.due("wedges and hashes are not seen alike", ofWedges.equals(ofHashes), false);
        Check.due("flip()", wedges.flip(), 9);
        Check.due("wedges become hashes", Sketch.seen(wedges), ofHashes);
        Check.due("flip()", hashes.flip(), 9);
        Check.due("hashes become wedges", Sketch.seen(hashes), ofWedges);
        Check.due("flip() again", wedges.flip(), 9);
        Check.due("as they were", Sketch.seen(wedges), ofWedges);
    }

    private static void flipLeavesUnmarked() {
        Check.part("7: bonds without a mark stay so");
        StereoForms x = Sketch.fluoride();
        Check.due("one wedge of three bonds", x.flip(), 1);
        Check.due("one hash", x.sense(0), 4);
        Check.due("mark(0, 0, 0)", x.mark(0, 0, 0), true);
        Check.due("none", x.flip(), 0);
        Check.due("flat", x.sense(0), 5);
        Check.due("mark(2, 2, 3)", x.mark(2, 2, 3), true);
        Check.due("one with its narrow end elsewhere counts", x.flip(), 1);
        Check.due("and stays there", x.sense(0), 5);
    }

    private static void hydrogens() {
        Check.part("8: how many hydrogens an atom has, from all of its valence to none");
        StereoForms x = Sketch.carbons(7);
        for (int b = 1; b <= 4; b++) {
            Check.due("before bond " + b, x.hydrogens(0), 5 - b);
            x.bond(b, 0, 1, 0);
        }
        Check.due("none left", x.hydrogens(0), 0);
        Check.due("bond(0, 5, 1, 0)", x.bond(0, 5, 1, 0), VALENCE);
        Check.due("none left still", x.hydrogens(0), 0);
        Check.due("nor has the other less", x.hydrogens(5), 4);
        Check.due("bond(5, 6, 3, 0)", x.bond(5, 6, 3, 0), 4);
        Check.due("the last of seven", x.hydrogens(6), 1);
    }

    private static void noAtomWithHydrogens() {
        Check.part("8: BAD when there is none such");
        for (int a : new int[] {-1, 4, 7, Sketch.MIN, Sketch.MAX}) {
            Sketch.refused("hydrogens(" + a + ")", BAD, Sketch::fluoride, x -> x.hydrogens(a));
        }
        Check.due("hydrogens(3) of four", Sketch.fluoride().hydrogens(3), 1);
        Check.due("hydrogens(6) of seven", Sketch.carbons(7).hydrogens(6), 4);
        Check.due("hydrogens(7) of seven", Sketch.carbons(7).hydrogens(7), BAD);
        Check.due("hydrogens(0) of none", new StereoForms().hydrogens(0), BAD);
        StereoForms x = Sketch.carbons(7);
        x.clear();
        x.atom(0, 0, 0);
        Check.due("one that was there before clear()", x.hydrogens(1), BAD);
    }
}
