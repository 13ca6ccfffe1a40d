import java.util.Arrays;

/**
 * Molecules that are drawn in a plane with wedges and hashes, and the one form that all ways to
 * number their atoms have in common. README.md tells how to use it.
 */
public final class StereoForms {
    /** An argument names nothing that there is, or is out of its range. */
    public static final int BAD = -1;
    /** No room. */
    public static final int FULL = -2;
    /** More than a valence. */
    public static final int VALENCE = -3;

    private static final int MOST_ATOMS = 7;
    private static final int MOST_BONDS = 9;
    private static final int FARTHEST = 1000;
    private static final int MOST_TURNED = 4;
    private static final int MOST_WAYS = 1 << MOST_TURNED;
    /** An atom takes at most "Cl@@;" of the text, a bond at most "(0=c)". */
    private static final int MOST_TEXT = 5 * MOST_ATOMS + 5 * MOST_BONDS;

    private static final int CARBON = 0;
    private static final int NITROGEN = 1;
    private static final int CHLORINE = 4;
    private static final int[] VALENCES = {4, 3, 2, 1, 1, 2};
    private static final String FIRST_LETTERS = "CNOFCS";

    private static final int WEDGE = 1;
    private static final int HASH = 2;
    private static final int MOST_ORDER = 3;

    private static final int NONE = -1;
    /** More than any row and any senses. */
    private static final int OPEN = Integer.MAX_VALUE;

    private final Drawing drawing;
    private final Senses own;
    private final Senses turned;
    private final Search search;
    private final Form form;
    private final Form kept;
    private final Numbering formNumbering;
    private final Text text;
    private final int[] found;
    private int mirroredSenses;
    /** Whether what is known of the form is that of the drawing as it is now. */
    private boolean settled;

    public StereoForms() {
        drawing = new Drawing();
        own = new Senses();
        turned = new Senses();
        search = new Search();
        form = new Form();
        kept = new Form();
        formNumbering = new Numbering();
        text = new Text();
        found = new int[MOST_WAYS];
        mirroredSenses = 0;
        settled = false;
    }

    public int atom(int element, int x, int y) {
        if (element < 0 || element >= VALENCES.length || !isPlace(x, y)) {
            return BAD;
        }
        if (drawing.atomCount >= MOST_ATOMS) {
            return FULL;
        }
        settled = false;
        return drawing.addAtom(element, x, y);
    }

    public int bond(int a, int b, int order, int mark) {
        if (!drawing.hasAtom(a) || !drawing.hasAtom(b) || a == b) {
            return BAD;
        }
        if (order < 1 || order > MOST_ORDER || !isMark(mark) || drawing.areBonded(a, b)) {
            return BAD;
        }
        if (drawing.bondCount >= MOST_BONDS) {
            return FULL;
        }
        if (order > drawing.freeValence(a) || order > drawing.freeValence(b)) {
            return VALENCE;
        }
        settled = false;
        return drawing.addBond(a, b, order, mark);
    }

    public boolean move(int a, int x, int y) {
        if (!drawing.hasAtom(a) || !isPlace(x, y)) {
            return false;
        }
        settled = false;
        drawing.xs[a] = x;
        drawing.ys[a] = y;
        return true;
    }

    public boolean mark(int bond, int mark, int narrow) {
        if (!drawing.hasBond(bond) || !isMark(mark) || !drawing.isEnd(bond, narrow)) {
            return false;
        }
        settled = false;
        drawing.setMark(bond, mark, narrow);
        return true;
    }

    public int clear() {
        settled = false;
        int gone = drawing.atomCount;
        drawing.removeAll();
        return gone;
    }

    public int flip() {
        settled = false;
        return drawing.swapMarks();
    }

    public int hydrogens(int a) {
        return drawing.hasAtom(a) ? drawing.freeValence(a) : BAD;
    }

    public int sense(int a) {
        if (!drawing.hasAtom(a)) {
            return BAD;
        }
        return own.senseOfAtom(drawing, a) + 1 + (drawing.isCentre(a) ? 4 : 0);
    }

    public int turn(int bond) {
        if (!drawing.hasBond(bond)) {
            return BAD;
        }
        return own.senseOfBond(drawing, bond) + 1 + (drawing.isHinge(bond) ? 4 : 0);
    }

    public int row(int i) {
        if (!drawing.hasAtom(i)) {
            return BAD;
        }
        settle();
        return form.rows[i];
    }

    public int senses() {
        settle();
        return form.senses;
    }

    public boolean chiral() {
        settle();
        return mirroredSenses != form.senses;
    }

    public int isomers() {
        settle();
        int units = own.countDrawn(drawing);
        if (units > MOST_TURNED) {
            return BAD;
        }
        int different = 0;
        for (int way = 0; way < 1 << units; way++) {
            turned.copyFrom(own);
            turned.turnSome(drawing, way);
            int least = search.leastSenses(drawing, turned);
            if (!isFound(least, different)) {
                found[different] = least;
                different++;
            }
        }
        return different;
    }

    public int keep() {
        settle();
        kept.copyFrom(form);
        return kept.atomCount;
    }

    public int compare() {
        settle();
        if (!form.hasRowsOf(kept)) {
            return 3;
        }
        if (form.senses == kept.senses) {
            return 0;
        }
        return mirroredSenses == kept.senses ? 2 : 1;
    }

    public int write() {
        settle();
        text.describe(drawing, own, formNumbering);
        return text.length;
    }

    public int at(int i) {
        return i >= 0 && i < text.length ? text.characters[i] : BAD;
    }

    private static boolean isPlace(int x, int y) {
        return x >= -FARTHEST && x <= FARTHEST && y >= -FARTHEST && y <= FARTHEST;
    }

    private static boolean isMark(int mark) {
        return mark >= 0 && mark <= HASH;
    }

    private static int sign(int value) {
        return value > 0 ? 1 : value < 0 ? -1 : 0;
    }

    /** Finds the form, and the one mirrored, if the drawing has changed since they were found. */
    private void settle() {
        if (settled) {
            return;
        }
        own.readFrom(drawing);
        search.begin(drawing);
        int least = search.leastSenses(drawing, own);
        form.take(search.rows, drawing.atomCount, least);
        formNumbering.copyFrom(search.best);
        turned.copyFrom(own);
        turned.mirror();
        mirroredSenses = search.leastSenses(drawing, turned);
        settled = true;
    }

    private boolean isFound(int senses, int different) {
        for (int k = 0; k < different; k++) {
            if (found[k] == senses) {
                return true;
            }
        }
        return false;
    }

    /** The atoms and bonds, by their own numbers; its callers see to it that the numbers exist. */
    private static final class Drawing {
        final int[] elements = new int[MOST_ATOMS];
        final int[] xs = new int[MOST_ATOMS];
        final int[] ys = new int[MOST_ATOMS];
        int atomCount = 0;
        final int[] firsts = new int[MOST_BONDS];
        final int[] seconds = new int[MOST_BONDS];
        final int[] orders = new int[MOST_BONDS];
        final int[] marks = new int[MOST_BONDS];
        int bondCount = 0;
        /** For each two atoms 1 more than the number of their bond, so that 0 stands for none. */
        final int[][] links = new int[MOST_ATOMS][MOST_ATOMS];

        boolean hasAtom(int a) {
            return a >= 0 && a < atomCount;
        }

        boolean hasBond(int bond) {
            return bond >= 0 && bond < bondCount;
        }

        boolean isEnd(int bond, int a) {
            return firsts[bond] == a || seconds[bond] == a;
        }

        int bondOf(int a, int b) {
            return links[a][b] - 1;
        }

        boolean areBonded(int a, int b) {
            return links[a][b] != 0;
        }

        int orderOf(int a, int b) {
            int link = links[a][b];
            return link != 0 ? orders[link - 1] : 0;
        }

        int addAtom(int element, int x, int y) {
            int a = atomCount;
            elements[a] = element;
            xs[a] = x;
            ys[a] = y;
            atomCount++;
            return a;
        }

        int addBond(int a, int b, int order, int mark) {
            int bond = bondCount;
            firsts[bond] = a;
            seconds[bond] = b;
            orders[bond] = order;
            marks[bond] = mark;
            bondCount++;
            links[a][b] = bondCount;
            links[b][a] = bondCount;
            return bond;
        }

        void setMark(int bond, int mark, int narrow) {
            int wide = firsts[bond] == narrow ? seconds[bond] : firsts[bond];
            firsts[bond] = narrow;
            seconds[bond] = wide;
            marks[bond] = mark;
        }

        int swapMarks() {
            int swapped = 0;
            for (int bond = 0; bond < bondCount; bond++) {
                if (marks[bond] != 0) {
                    marks[bond] = marks[bond] == WEDGE ? HASH : WEDGE;
                    swapped++;
                }
            }
            return swapped;
        }

        void removeAll() {
            for (int a = 0; a < atomCount; a++) {
                Arrays.fill(links[a], 0);
            }
            atomCount = 0;
            bondCount = 0;
        }

        /** What the bonds leave of an atom's valence: its hydrogens. */
        int freeValence(int a) {
            int free = VALENCES[elements[a]];
            for (int b = 0; b < atomCount; b++) {
                free -= orderOf(a, b);
            }
            return free;
        }

        boolean isAlone(int a) {
            return freeValence(a) == VALENCES[elements[a]];
        }

        boolean isCentre(int a) {
            int single = singleBonds(a, NONE);
            return elements[a] == CARBON && (single == 3 || single == 4);
        }

        boolean isHinge(int bond) {
            return orders[bond] == 2
                    && isHingeEnd(firsts[bond], seconds[bond])
                    && isHingeEnd(seconds[bond], firsts[bond]);
        }

        private boolean isHingeEnd(int a, int otherEnd) {
            int single = singleBonds(a, otherEnd);
            return (elements[a] == CARBON || elements[a] == NITROGEN)
                    && (single == 1 || single == 2);
        }

        /** How many bonds an atom has but for that with one; NONE if they are not all single. */
        private int singleBonds(int a, int except) {
            int count = 0;
            for (int b = 0; b < atomCount; b++) {
                int order = b == except ? 0 : orderOf(a, b);
                if (order > 1) {
                    return NONE;
                }
                count += order;
            }
            return count;
        }

        /** The z of a neighbour's point; 0 for the centre itself, as it has no bond with itself. */
        int height(int centre, int neighbour) {
            if (!areBonded(centre, neighbour)) {
                return 0;
            }
            int bond = bondOf(centre, neighbour);
            if (firsts[bond] != centre || marks[bond] == 0) {
                return 0;
            }
            return marks[bond] == WEDGE ? 1 : -1;
        }

        /** On which side of the line from a to b an atom lies. */
        int side(int a, int b, int atom) {
            return sign((xs[b] - xs[a]) * (ys[atom] - ys[a])
                    - (ys[b] - ys[a]) * (xs[atom] - xs[a]));
        }
    }

    /** The senses by the atoms' own numbers, as they are drawn or with some of them turned. */
    private static final class Senses {
        final int[] atoms = new int[MOST_ATOMS];
        final int[] bonds = new int[MOST_BONDS];
        /** A hinge whose sense is 0 counts in the code too, so the senses alone don't tell it. */
        final boolean[] hinges = new boolean[MOST_BONDS];
        private final int[] around = new int[4];

        void readFrom(Drawing drawing) {
            for (int a = 0; a < drawing.atomCount; a++) {
                atoms[a] = senseOfAtom(drawing, a);
            }
            for (int bond = 0; bond < drawing.bondCount; bond++) {
                bonds[bond] = senseOfBond(drawing, bond);
                hinges[bond] = drawing.isHinge(bond);
            }
        }

        void copyFrom(Senses other) {
            System.arraycopy(other.atoms, 0, atoms, 0, MOST_ATOMS);
            System.arraycopy(other.bonds, 0, bonds, 0, MOST_BONDS);
            System.arraycopy(other.hinges, 0, hinges, 0, MOST_BONDS);
        }

        void mirror() {
            for (int a = 0; a < MOST_ATOMS; a++) {
                atoms[a] = -atoms[a];
            }
        }

        int countDrawn(Drawing drawing) {
            int count = 0;
            for (int a = 0; a < drawing.atomCount; a++) {
                count += atoms[a] != 0 ? 1 : 0;
            }
            for (int bond = 0; bond < drawing.bondCount; bond++) {
                count += bonds[bond] != 0 ? 1 : 0;
            }
            return count;
        }

        /** Bit 0 of the way turns the first sense that is not 0, bit 1 the second, and so on. */
        void turnSome(Drawing drawing, int way) {
            int left = way;
            for (int a = 0; a < drawing.atomCount; a++) {
                if (atoms[a] != 0) {
                    atoms[a] = (left & 1) != 0 ? -atoms[a] : atoms[a];
                    left >>= 1;
                }
            }
            for (int bond = 0; bond < drawing.bondCount; bond++) {
                if (bonds[bond] != 0) {
                    bonds[bond] = (left & 1) != 0 ? -bonds[bond] : bonds[bond];
                    left >>= 1;
                }
            }
        }

        int senseOfAtom(Drawing drawing, int a) {
            if (!drawing.isCentre(a)) {
                return 0;
            }
            int count = 0;
            for (int b = 0; b < drawing.atomCount; b++) {
                if (drawing.areBonded(a, b) && count < around.length) {
                    around[count] = b;
                    count++;
                }
            }
            // With four neighbours the points are told from the fourth, with three from the centre.
            return sign(determinant(drawing, a, count == 4 ? around[3] : a));
        }

        /** That of the points of the first three neighbours, less the point of one atom. */
        private int determinant(Drawing drawing, int centre, int from) {
            int x = drawing.xs[from];
            int y = drawing.ys[from];
            int z = drawing.height(centre, from);
            int ux = drawing.xs[around[0]] - x;
            int uy = drawing.ys[around[0]] - y;
            int uz = drawing.height(centre, around[0]) - z;
            int vx = drawing.xs[around[1]] - x;
            int vy = drawing.ys[around[1]] - y;
            int vz = drawing.height(centre, around[1]) - z;
            int wx = drawing.xs[around[2]] - x;
            int wy = drawing.ys[around[2]] - y;
            int wz = drawing.height(centre, around[2]) - z;
            return ux * (vy * wz - vz * wy) - uy * (vx * wz - vz * wx) + uz * (vx * wy - vy * wx);
        }

        int senseOfBond(Drawing drawing, int bond) {
            if (!drawing.isHinge(bond)) {
                return 0;
            }
            int a = Math.min(drawing.firsts[bond], drawing.seconds[bond]);
            int b = Math.max(drawing.firsts[bond], drawing.seconds[bond]);
            return sideOfEnd(drawing, a, b, a) * sideOfEnd(drawing, a, b, b);
        }

        /** The side of the least neighbour of a hinge's end; 0 if that end leaves no sense. */
        private static int sideOfEnd(Drawing drawing, int a, int b, int end) {
            int first = 0;
            for (int p = 0; p < drawing.atomCount; p++) {
                if (p != a && p != b && drawing.areBonded(end, p)) {
                    int side = drawing.side(a, b, p);
                    if (side == 0 || side == first) {
                        return 0;
                    }
                    first = first == 0 ? side : first;
                }
            }
            return first;
        }
    }

    /** Which atom has which number; while it is being made, some have none. */
    private static final class Numbering {
        final int[] atoms = new int[MOST_ATOMS];
        final int[] numbers = new int[MOST_ATOMS];

        void removeAll() {
            Arrays.fill(atoms, NONE);
            Arrays.fill(numbers, NONE);
        }

        void give(int a, int number) {
            atoms[number] = a;
            numbers[a] = number;
        }

        void takeBack(int a, int number) {
            atoms[number] = NONE;
            numbers[a] = NONE;
        }

        void copyFrom(Numbering other) {
            System.arraycopy(other.atoms, 0, atoms, 0, MOST_ATOMS);
            System.arraycopy(other.numbers, 0, numbers, 0, MOST_ATOMS);
        }

        /** The senses as one number. */
        int code(Drawing drawing, Senses senses) {
            int code = 0;
            for (int i = 0; i < drawing.atomCount; i++) {
                code = 3 * code + senseOfAtom(drawing, senses, atoms[i]) + 1;
            }
            for (int i = 0; i < drawing.atomCount; i++) {
                for (int j = 0; j < i; j++) {
                    int bond = drawing.bondOf(atoms[i], atoms[j]);
                    if (bond != NONE && senses.hinges[bond]) {
                        code = 3 * code + senseOfBond(drawing, senses, bond) + 1;
                    }
                }
            }
            return code;
        }

        int senseOfAtom(Drawing drawing, Senses senses, int a) {
            int sense = senses.atoms[a];
            return sense == 0 ? 0 : sense * orderSign(drawing, a, NONE);
        }

        int senseOfBond(Drawing drawing, Senses senses, int bond) {
            int sense = senses.bonds[bond];
            if (sense == 0) {
                return 0;
            }
            // Which end has the lesser number is all one: it turns both sides, so not the product.
            int a = drawing.firsts[bond];
            int b = drawing.seconds[bond];
            return sense * orderSign(drawing, a, b) * orderSign(drawing, b, a);
        }

        /**
         * -1 if an odd number of pairs of an atom's neighbours stand the other way round than by
         * their own numbers, else 1. Each such pair turns the sign of a centre's determinant; at a
         * hinge's end it makes the neighbour on the other side the least.
         */
        private int orderSign(Drawing drawing, int a, int except) {
            int[] links = drawing.links[a];
            int sign = 1;
            for (int q = 0; q < drawing.atomCount; q++) {
                if (q == except || links[q] == 0) {
                    continue;
                }
                for (int p = 0; p < q; p++) {
                    if (p != except && links[p] != 0 && numbers[p] > numbers[q]) {
                        sign = -sign;
                    }
                }
            }
            return sign;
        }
    }

    /** Goes through the numberings for the least rows and, of these, the least senses. */
    private static final class Search {
        final int[] rows = new int[MOST_ATOMS];
        final Numbering best = new Numbering();
        private final Numbering trial = new Numbering();
        private final int[] heads = new int[MOST_ATOMS];
        private int least = OPEN;

        /** A drawing is new: nothing is known of its rows. */
        void begin(Drawing drawing) {
            Arrays.fill(rows, OPEN);
            for (int a = 0; a < drawing.atomCount; a++) {
                heads[a] = 65536 * (8 * drawing.elements[a] + drawing.freeValence(a));
            }
        }

        /** The senses of the least code; the rows stay, as turned senses do not change them. */
        int leastSenses(Drawing drawing, Senses senses) {
            least = OPEN;
            trial.removeAll();
            place(drawing, senses, 0);
            return least;
        }

        /** Gives number i to each atom that makes row i least, and goes on from there. */
        private void place(Drawing drawing, Senses senses, int i) {
            if (i >= drawing.atomCount) {
                weigh(drawing, senses);
                return;
            }
            int lowest = lowestRow(drawing, i);
            if (lowest > rows[i]) {
                return;
            }
            if (lowest < rows[i]) {
                lower(i, lowest);
            }
            for (int a = 0; a < drawing.atomCount; a++) {
                if (trial.numbers[a] == NONE && rowOf(drawing, a, i) == lowest) {
                    trial.give(a, i);
                    place(drawing, senses, i + 1);
                    trial.takeBack(a, i);
                    // Others with this row have as many hydrogens, so no bonds either: to give one
                    // of them the number makes the same codes again, up to 5040 times.
                    if (drawing.isAlone(a)) {
                        return;
                    }
                }
            }
        }

        private void weigh(Drawing drawing, Senses senses) {
            int code = trial.code(drawing, senses);
            if (code < least) {
                least = code;
                best.copyFrom(trial);
            }
        }

        /** A lesser row i: what came after the greater one counts no more. */
        private void lower(int i, int row) {
            rows[i] = row;
            for (int k = i + 1; k < MOST_ATOMS; k++) {
                rows[k] = OPEN;
            }
            least = OPEN;
        }

        private int lowestRow(Drawing drawing, int i) {
            int lowest = OPEN;
            for (int a = 0; a < drawing.atomCount; a++) {
                if (trial.numbers[a] == NONE) {
                    lowest = Math.min(lowest, rowOf(drawing, a, i));
                }
            }
            return lowest;
        }

        /** Row i if atom a has that number. */
        private int rowOf(Drawing drawing, int a, int i) {
            int row = heads[a];
            for (int j = 0; j < i; j++) {
                row += drawing.orderOf(a, trial.atoms[j]) << (2 * j);
            }
            return row;
        }
    }

    /** A code that is least of all numberings. */
    private static final class Form {
        int atomCount = NONE;
        final int[] rows = new int[MOST_ATOMS];
        int senses = 0;

        void take(int[] leastRows, int count, int leastSenses) {
            System.arraycopy(leastRows, 0, rows, 0, MOST_ATOMS);
            atomCount = count;
            senses = leastSenses;
        }

        void copyFrom(Form other) {
            take(other.rows, other.atomCount, other.senses);
        }

        boolean hasRowsOf(Form other) {
            if (atomCount != other.atomCount) {
                return false;
            }
            for (int i = 0; i < atomCount; i++) {
                if (rows[i] != other.rows[i]) {
                    return false;
                }
            }
            return true;
        }
    }

    /** The text that was made last. */
    private static final class Text {
        final char[] characters = new char[MOST_TEXT];
        int length = 0;

        void describe(Drawing drawing, Senses senses, Numbering numbering) {
            length = 0;
            for (int i = 0; i < drawing.atomCount; i++) {
                int a = numbering.atoms[i];
                addElement(drawing.elements[a]);
                addSense(numbering.senseOfAtom(drawing, senses, a));
                for (int j = 0; j < i; j++) {
                    int bond = drawing.bondOf(a, numbering.atoms[j]);
                    if (bond != NONE) {
                        int sense = numbering.senseOfBond(drawing, senses, bond);
                        addBond(j, drawing.orders[bond], sense);
                    }
                }
                add(';');
            }
        }

        private void addElement(int element) {
            add(FIRST_LETTERS.charAt(element));
            if (element == CHLORINE) {
                add('l');
            }
        }

        private void addSense(int sense) {
            if (sense != 0) {
                add('@');
            }
            if (sense > 0) {
                add('@');
            }
        }

        private void addBond(int number, int order, int sense) {
            add('(');
            add((char) ('0' + number));
            if (order == 2) {
                add('=');
            }
            if (order == 3) {
                add('#');
            }
            if (sense != 0) {
                add(sense > 0 ? 'c' : 't');
            }
            add(')');
        }

        private void add(char character) {
            if (length < characters.length) {
                characters[length] = character;
                length++;
            }
        }
    }
}
