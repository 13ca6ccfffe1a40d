/**
 * The edges of promises 9 to 18: the last value that is taken, the first that is refused, and what
 * the calls after a refused one show. Each part is named by the document's words.
 */
public final class AskEdgeTest {
    private static final int BAD = StereoForms.BAD;
    private static final int HEAD = 65536;
    private static final int CALLS = 512;

    public static void main(String[] args) {
        noAtomWithSense();
        fourMoreForCentres();
        noBondToTurn();
        fourMoreForHinges();
        noRow();
        rowsOfAChange();
        rowsOfNone();
        sensesOfNone();
        sensesOfOneAndOfSeven();
        chiralOfNone();
        chiralBesideFlat();
        isomersOfNone();
        isomersOfFour();
        isomersOfFive();
        isomersOfCentresAndHinge();
        isomersOfFlat();
        keepOfNone();
        keepOfAll();
        keepInPlaceOfTheOneBefore();
        compareWithNothingKept();
        compareWithNoAtomsKept();
        compareMirrored();
        compareMirroredWithItself();
        compareRows();
        compareOtherwise();
        writeOfNone();
        writeOfMuch();
        writeAfterIsomers();
        noCharacter();
        charactersOfALongerText();
        lastCall();
        Check.end();
    }

    private static void noAtomWithSense() {
        Check.part("9: BAD when there is none such");
        for (int a : new int[] {-1, 4, 7, Sketch.MIN, Sketch.MAX}) {
            Sketch.refused("sense(" + a + ")", BAD, Sketch::fluoride, x -> x.sense(a));
        }
        Check.due("sense(3) of four", Sketch.fluoride().sense(3), 1);
        Check.due("sense(6) of seven", Sketch.carbons(7).sense(6), 1);
        Check.due("sense(7) of seven", Sketch.carbons(7).sense(7), BAD);
        Check.due("sense(0) of none", new StereoForms().sense(0), BAD);
        StereoForms x = Sketch.fluoride();
        x.clear();
        Check.due("one that was there before clear()", x.sense(0), BAD);
    }

    private static void fourMoreForCentres() {
        Check.part("9: + 1; and 4 more if it is a centre");
        StereoForms x = Sketch.fluoride();
        Check.due("a centre with the sense 1", x.sense(0), 6);
        x.mark(0, 0, 0);
        Check.due("a centre with the sense 0", x.sense(0), 5);
        x.mark(0, 2, 0);
        Check.due("a centre with the sense -1", x.sense(0), 4);
        Check.due("no centre", x.sense(1), 1);
    }

    private static void noBondToTurn() {
        Check.part("10: BAD when there is none such");
        for (int bond : new int[] {-1, 3, 9, Sketch.MIN, Sketch.MAX}) {
            Sketch.refused("turn(" + bond + ")", BAD, Sketch::fluoride, x -> x.turn(bond));
        }
        Check.due("turn(2) of three", Sketch.fluoride().turn(2), 1);
        Check.due("turn(8) of nine", Sketch.nineBonds(0).turn(8), 1);
        Check.due("turn(9) of nine", Sketch.nineBonds(0).turn(9), BAD);
        Check.due("turn(0) of none", Sketch.carbons(7).turn(0), BAD);
        StereoForms x = Sketch.hinge(-50, 80);
        x.clear();
        Check.due("one that was there before clear()", x.turn(0), BAD);
    }

    private static void fourMoreForHinges() {
        Check.part("10: likewise, + 1; and 4 more if it is a hinge");
        Check.due("a hinge with the sense 1", Sketch.hinge(-50, 80).turn(0), 6);
        Check.due("a hinge with the sense 0", Sketch.hinge(-50, 0).turn(0), 5);
        Check.due("a hinge with the sense -1", Sketch.hinge(-50, -80).turn(0), 4);
        Check.due("no hinge", Sketch.hinge(-50, 80).turn(1), 1);
    }

    private static void noRow() {
        Check.part("11: BAD when there is none");
        for (int i : new int[] {-1, 4, 7, Sketch.MIN, Sketch.MAX}) {
            Sketch.refused("row(" + i + ")", BAD, Sketch::fluoride, x -> x.row(i));
        }
        Check.due("row(0) of four", Sketch.fluoride().row(0), HEAD);
        Check.due("row(3) of four", Sketch.fluoride().row(3), 41 * HEAD + 1);
        Check.due("row(6) of seven", Sketch.carbons(7).row(6), 4 * HEAD);
        Check.due("row(7) of seven", Sketch.carbons(7).row(7), BAD);
    }

    private static void rowsOfAChange() {
        Check.part("11: of the form as the drawing is now, after a call that is taken and one that is refused");
        StereoForms x = Sketch.carbons(2);
        Check.due("row(1)", x.row(1), 4 * HEAD);
        Check.due("bond(0, 1, 3, 0)", x.bond(0, 1, 3, 0), 0);
        Check.due("row(1) with a bond", x.row(1), HEAD + 3);
        Check.due("bond(0, 1, 1, 0)", x.bond(0, 1, 1, 0), BAD);
        Check.due("row(1) still", x.row(1), HEAD + 3);
        Check.due("atom(0, 0, 0)", x.atom(0, 0, 0), 2);
        Check.due("row(2) with an atom", x.row(2), 4 * HEAD);
        Check.due("bond(0, 2, 2, 0)", x.bond(0, 2, 2, 0), StereoForms.VALENCE);
        Check.due("row(2) still", x.row(2), 4 * HEAD);
        Check.due("bond(2, 0, 1, 0)", x.bond(2, 0, 1, 0), 1);
        Check.due("row(2) with a bond", x.row(2), 3 * HEAD + 1);
    }

    private static void rowsOfNone() {
        Check.part("11: 0 atoms: no rows");
        StereoForms x = Sketch.carbons(7);
        Check.due("row(0) of seven", x.row(0), 4 * HEAD);
        x.keep();
        x.clear();
        Check.due("row(0) of none", x.row(0), BAD);
        Check.due("row(6) of none", x.row(6), BAD);
        x.atom(5, 0, 0);
        Check.due("row(0) of one", x.row(0), 42 * HEAD);
        Check.due("row(1) of one", x.row(1), BAD);
    }

    private static void sensesOfNone() {
        Check.part("12: 0 atoms: senses 0");
        Check.due("senses()", new StereoForms().senses(), 0);
        StereoForms x = Sketch.fluoride();
        Check.due("senses() of four", x.senses(), 67);
        x.clear();
        Check.due("senses() of none", x.senses(), 0);
    }

    private static void sensesOfOneAndOfSeven() {
        Check.part("12: senses() of one atom and of seven");
        Check.due("one", Sketch.carbons(1).senses(), 1);
        Check.due("seven", Sketch.carbons(7).senses(), 1093);
        StereoForms full = Sketch.carbons(7);
        full.atom(0, 0, 0);
        Check.due("an eighth that is refused has none", full.senses(), 1093);
    }

    private static void chiralOfNone() {
        Check.part("13: a drawing of no atoms or one");
        Check.due("none", new StereoForms().chiral(), false);
        Check.due("one", Sketch.carbons(1).chiral(), false);
        StereoForms x = Sketch.fluoride();
        Check.due("four", x.chiral(), true);
        x.clear();
        Check.due("none again", x.chiral(), false);
    }

    private static void chiralBesideFlat() {
        Check.part("13: chiral just beside the places that make it flat");
        StereoForms x = Sketch.fluoride();
        x.move(2, -1000, 1);
        x.move(3, 1000, 0);
        Check.due("beside a line", x.chiral(), true);
        x.move(2, -1000, 0);
        Check.due("on it", x.chiral(), false);
        Check.due("move(2, -1001, 1)", x.move(2, -1001, 1), false);
        Check.due("on it still", x.chiral(), false);
    }

    private static void isomersOfNone() {
        Check.part("14: no senses other than 0");
        Check.due("no atoms", new StereoForms().isomers(), 1);
        Check.due("one atom", Sketch.carbons(1).isomers(), 1);
        Check.due("seven atoms, nine bonds", Sketch.nineBonds(0).isomers(), 1);
    }

    private static void isomersOfFour() {
        Check.part("14: four senses other than 0");
        for (int flat = 0; flat < 5; flat++) {
            StereoForms x = fiveCentres();
            x.mark(flat, 0, flat);
            Check.due("the sense gone", x.sense(flat), 5);
            int before = x.senses();
            Check.due("four, without that of " + flat, x.isomers(), 16);
            Check.due("senses() stays", x.senses(), before);
            x.mark((flat + 1) % 5, 0, (flat + 1) % 5);
            Check.due("three", x.isomers(), 8);
        }
    }

    private static void isomersOfFive() {
        Check.part("14: BAD when more than 4 have senses other than 0");
        Sketch.refused("five centres", BAD, AskEdgeTest::fiveCentres, StereoForms::isomers);
        StereoForms x = fiveCentres();
        Check.due("five", x.isomers(), BAD);
        x.mark(2, 0, 2);
        Check.due("four", x.isomers(), 16);
        x.mark(2, 2, 2);
        Check.due("five again", x.isomers(), BAD);
        Check.due("it has a form all the same", x.keep(), 7);
        Check.due("compare()", x.compare(), 0);
        Check.due("chiral()", x.chiral(), true);
        StereoForms six = prism(1);
        Check.due("six centres", six.isomers(), BAD);
    }

    private static void isomersOfCentresAndHinge() {
        Check.part("14: more than 4 centres and hinges, counted together");
        StereoForms x = prism(2);
        Check.due("the hinge", x.turn(0), 6);
        for (int a : new int[] {1, 2, 4, 5}) {
            Check.due("centre " + a, x.sense(a) == 4 || x.sense(a) == 6, true);
        }
        Check.due("four centres and a hinge", x.isomers(), BAD);
        x.mark(1, 0, 1);
        Check.due("a flat centre", x.sense(1), 5);
        Check.due("three centres and a hinge", x.isomers(), 16);
        x.mark(1, 1, 1);
        Check.due("four and a hinge again", x.isomers(), BAD);
        x.move(1, 0, 400);
        Check.due("the hinge has no sense", x.turn(0), 5);
        Check.due("four centres, which are alike by twos and twos", x.isomers(), 7);
    }

    private static void isomersOfFlat() {
        Check.part("14: centres and hinges with the sense 0 don't count");
        StereoForms x = fiveCentres();
        for (int a = 0; a < 5; a++) {
            x.mark(a, 0, a);
            Check.due("centre " + a + " is flat", x.sense(a), 5);
        }
        Check.due("five flat centres", x.isomers(), 1);
        x.mark(4, 1, 4);
        Check.due("four flat centres and one other", x.isomers(), 2);
    }

    private static void keepOfNone() {
        Check.part("15: how many atoms it has, when it has none");
        StereoForms x = new StereoForms();
        Check.due("keep()", x.keep(), 0);
        Check.due("it is kept", x.compare(), 0);
    }

    private static void keepOfAll() {
        Check.part("15: how many atoms it has");
        for (int n = 1; n <= 7; n++) {
            StereoForms x = Sketch.carbons(n);
            Check.due(n + " atoms", x.keep(), n);
            Check.due("they are kept", x.compare(), 0);
        }
        StereoForms x = Sketch.nineBonds(1);
        Check.due("an eighth", x.atom(0, 0, 0), StereoForms.FULL);
        Check.due("seven atoms, nine bonds", x.keep(), 7);
        Check.due("they are kept", x.compare(), 0);
    }

    private static void keepInPlaceOfTheOneBefore() {
        Check.part("15: in place of the one before");
        StereoForms x = Sketch.fluoride();
        x.flip();
        Check.due("keep()", x.keep(), 4);
        Check.due("the new one", x.compare(), 0);
        x.flip();
        Check.due("not the one before", x.compare(), 2);
        x.clear();
        Check.due("keep() of none", x.keep(), 0);
        Check.due("the new one", x.compare(), 0);
        Sketch.drawCarbons(x, 1);
        Check.due("another", x.compare(), 3);
    }

    private static void compareWithNothingKept() {
        Check.part("16: 3 when nothing is kept");
        Check.due("no atoms", new StereoForms().compare(), 3);
        Check.due("one atom", Sketch.carbons(1).compare(), 3);
        StereoForms x = Sketch.nineBonds(1);
        Check.due("seven atoms", x.compare(), 3);
        x.write();
        x.clear();
        Check.due("after clear()", x.compare(), 3);
    }

    private static void compareWithNoAtomsKept() {
        Check.part("16: 0 when the form of no atoms is kept");
        StereoForms x = new StereoForms();
        x.keep();
        Check.due("compare()", x.compare(), 0);
        x.atom(0, 0, 0);
        Check.due("an atom more", x.compare(), 3);
        x.clear();
        Check.due("gone again", x.compare(), 0);
    }

    private static void compareMirrored() {
        Check.part("16: 2 when it is not, but mirrored it is");
        StereoForms x = Sketch.fluoride();
        Check.due("the same", x.compare(), 0);
        x.flip();
        Check.due("mirrored", x.compare(), 2);
        x.mark(0, 0, 0);
        Check.due("flat", x.compare(), 1);
        Check.due("a refused mark", x.mark(0, 3, 0), false);
        Check.due("flat still", x.compare(), 1);
    }

    private static void compareMirroredWithItself() {
        Check.part("16: 0, not 2, when it is the kept form both ways");
        StereoForms x = Sketch.fluoride();
        x.mark(0, 0, 0);
        x.keep();
        Check.due("its own mirror image", x.compare(), 0);
        x.flip();
        Check.due("and mirrored", x.compare(), 0);
    }

    private static void compareRows() {
        Check.part("16: 1 when neither is so, but the rows are those kept");
        StereoForms x = Sketch.hinge(-50, 80);
        x.keep();
        x.move(2, -50, 1);
        Check.due("a side is kept to the last place", x.compare(), 0);
        x.move(2, -50, 0);
        Check.due("on the line", x.compare(), 1);
        x.move(2, -50, -1);
        Check.due("the other side: to mirror does not turn a hinge", x.compare(), 1);
    }

    private static void compareOtherwise() {
        Check.part("16: 3 otherwise");
        StereoForms x = Sketch.carbons(6);
        x.keep();
        x.atom(0, 0, 0);
        Check.due("a row more", x.compare(), 3);
        x.keep();
        x.clear();
        Sketch.drawCarbons(x, 6);
        Check.due("a row less", x.compare(), 3);
        x.atom(1, 0, 0);
        Check.due("the last row is another", x.compare(), 3);
        x.clear();
        x.atom(0, 0, 0);
        x.keep();
        x.clear();
        x.atom(1, 0, 0);
        Check.due("the first row is another", x.compare(), 3);
    }

    private static void writeOfNone() {
        Check.part("17: how long it is, when there are no atoms");
        StereoForms x = new StereoForms();
        Check.due("write()", x.write(), 0);
        Check.due("at(0)", x.at(0), BAD);
        StereoForms y = Sketch.fluoride();
        Check.due("at(0) before", y.at(0), 'C');
        y.clear();
        Check.due("write()", y.write(), 0);
        Check.due("at(0)", y.at(0), BAD);
        Check.due("at(19)", y.at(19), BAD);
    }

    private static void writeOfMuch() {
        Check.part("17: how long it is, with all atoms, bonds and senses");
        textIs(fiveCentres(), "C@@;C@(0);C@(0);C@@(0)(1);C@(0)(1)(2);F(2);Cl(3);");
        textIs(prism(2), "C;C(0=t);C@(0);C@(1);C@@(0)(2)(3);C@(1)(2)(3);");
        textIs(benzene(), "C;C;C;C(0=c)(1);C(1=c)(2);C(0)(2=c);Cl(0);");
        // The longest one that is known: of six million drawings none had a longer one.
        StereoForms x = Sketch.atoms(0, 174, -196, 4, 57, 113, 4, 116, -15, 0, -109, -47, 0, 26, -75, 0, -43, 16,
                0, -2, 27);
        Sketch.bonds(x, 6, 3, 1, 2, 4, 5, 1, 2, 2, 5, 1, 1, 3, 4, 1, 2, 6, 1, 1, 2, 6, 0, 1, 1, 0, 3, 1, 1,
                6, 4, 1, 2, 5, 0, 1, 1);
        textIs(x, "C@;C@@;C@@(0);C@@(0)(1)(2);C@@(0)(1)(2);Cl(0);Cl(1);");
        Check.due("at(51)", x.at(51), ';');
        Check.due("at(52)", x.at(52), BAD);
    }

    private static void writeAfterIsomers() {
        Check.part("17: the text of the form, after isomers() was refused and after it was not");
        StereoForms five = prism(1);
        five.mark(1, 0, 1);
        Check.due("isomers() of five", five.isomers(), BAD);
        textIs(five, "C@;C@;C@(0);C@@(0)(1);C@(0)(1)(2);C(1)(2)(3);");
        StereoForms four = prism(2);
        four.mark(1, 0, 1);
        Check.due("isomers() of four", four.isomers(), 16);
        textIs(four, "C;C(0=t);C@(0);C@(1);C@@(0)(2)(3);C(1)(2)(3);");
        Check.due("chiral()", four.chiral(), true);
        textIs(four, "C;C(0=t);C@(0);C@(1);C@@(0)(2)(3);C(1)(2)(3);");
    }

    private static void textIs(StereoForms x, String text) {
        Check.due("write() for " + text, x.write(), text.length());
        Check.due("the text", Check.text(x), text);
    }

    private static void noCharacter() {
        Check.part("18: BAD when there is none");
        for (int i : new int[] {-1, 20, 21, 79, 80, Sketch.MIN, Sketch.MAX}) {
            Sketch.refused("at(" + i + ")", BAD, Sketch::fluoride, x -> x.at(i));
        }
        Check.due("at(0)", Sketch.fluoride().at(0), 'C');
        Check.due("at(19)", Sketch.fluoride().at(19), ';');
    }

    private static void charactersOfALongerText() {
        Check.part("18: BAD when there is none, but was in a longer text");
        StereoForms x = Sketch.fluoride();
        x.flip();
        Check.due("at(19) of the old text", x.at(19), ';');
        Check.due("write()", x.write(), 19);
        Check.due("at(18)", x.at(18), ';');
        Check.due("at(19)", x.at(19), BAD);
        x.flip();
        Check.due("at(19) before write()", x.at(19), BAD);
        Check.due("write()", x.write(), 20);
        Check.due("at(19)", x.at(19), ';');
        Check.due("at(20)", x.at(20), BAD);
    }

    /** The 512th call is the last one whose answer is promised. */
    private static void lastCall() {
        Check.part("at most 512 calls");
        StereoForms x = Sketch.atoms(0, 0, 0, 3, 100, 0, 4, -50, 80, 5, -50, -80);
        Sketch.bonds(x, 0, 1, 1, 1, 0, 2, 1, 0, 0, 3, 1, 0);
        Check.due("call 8", x.keep(), 4);
        for (int call = 9; call < CALLS; call++) {
            if (call % 2 == 1) {
                Check.due("call " + call, x.flip(), 1);
            } else {
                Check.due("call " + call, x.compare(), call % 4 == 0 ? 0 : 2);
            }
        }
        Check.due("call 512", x.compare(), 0);
    }

    /**
     * Five carbons, the first with bonds to all others, which are in a row, with fluorine and
     * chlorine at its ends. Bond a is a wedge with its narrow end at carbon a, which makes it a
     * centre with a sense; no two atoms are alike.
     */
    private static StereoForms fiveCentres() {
        StereoForms x = Sketch.atoms(0, 0, 0, 0, -200, 100, 0, -100, -150, 0, 120, -140, 0, 210, 90,
                3, -350, 200, 4, 340, 210);
        Sketch.bonds(x, 0, 2, 1, 1, 1, 5, 1, 1, 2, 3, 1, 1, 3, 4, 1, 1, 4, 6, 1, 1,
                0, 1, 1, 0, 0, 3, 1, 0, 0, 4, 1, 0, 1, 2, 1, 0);
        for (int a = 0; a < 5; a++) {
            Check.due("centre " + a + " of five", x.sense(a) == 4 || x.sense(a) == 6, true);
        }
        return x;
    }

    /**
     * Two triangles of carbons, 0 1 2 and 3 4 5, the second inside the first, and bonds from each
     * of its corners to the next one's; bond 0, of the order, is between 0 and 3.
     */
    private static StereoForms prism(int order) {
        StereoForms x = Sketch.atoms(0, 0, 300, 0, -300, -200, 0, 310, -200, 0, 10, 100, 0, -100, -60, 0, 100, -70);
        Sketch.bonds(x, 0, 3, order, 0, 1, 2, 1, 1, 2, 5, 1, 1, 5, 4, 1, 1, 4, 1, 1, 1,
                0, 1, 1, 1, 0, 2, 1, 0, 3, 4, 1, 1, 3, 5, 1, 0);
        return x;
    }

    /** A ring of six carbons with three hinges in it, and a chlorine. */
    private static StereoForms benzene() {
        StereoForms x = Sketch.atoms(0, 200, 0, 0, 100, 170, 0, -100, 170, 0, -200, 0, 0, -100, -170, 0, 100, -170,
                4, 300, 0);
        Sketch.bonds(x, 0, 1, 2, 0, 1, 2, 1, 0, 2, 3, 2, 0, 3, 4, 1, 0, 4, 5, 2, 0, 5, 0, 1, 0, 0, 6, 1, 0);
        return x;
    }
}
