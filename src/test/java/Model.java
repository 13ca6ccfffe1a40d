import java.util.ArrayList;
import java.util.Arrays;
import java.util.HashSet;
import java.util.List;
import java.util.Set;

/**
 * The document once more, word by word and without any cleverness: all numberings are tried, and in
 * each one every sense is measured anew. It shares no code with the class.
 */
final class Model {
    private static final int[] VALENCES = {4, 3, 2, 1, 1, 2};
    private static final String[] SYMBOLS = {"C", "N", "O", "F", "Cl", "S"};

    private static final class Atom {
        int element;
        long x;
        long y;
    }

    private static final class Bond {
        int first;
        int second;
        int order;
        int mark;

        boolean joins(int a, int b) {
            return first == a && second == b || first == b && second == a;
        }
    }

    /** A code: the rows, and behind them the senses; with the numbering that it is of. */
    private static final class Code {
        final List<Integer> rows = new ArrayList<>();
        int senses;
        int[] numbers;

        boolean isLessThan(Code other) {
            for (int i = 0; i < rows.size(); i++) {
                int difference = Integer.compare(rows.get(i), other.rows.get(i));
                if (difference != 0) {
                    return difference < 0;
                }
            }
            return senses < other.senses;
        }

        boolean isSameAs(Code other) {
            return rows.equals(other.rows) && senses == other.senses;
        }
    }

    private final List<Atom> atoms = new ArrayList<>();
    private final List<Bond> bonds = new ArrayList<>();
    private Code kept = null;
    private String text = "";
    private Code form = null;
    private Code mirrored = null;

    private static boolean isPlace(int x, int y) {
        return Math.max(Math.abs((long) x), Math.abs((long) y)) <= 1000;
    }

    private boolean isAtom(int a) {
        return 0 <= a && a < atoms.size();
    }

    private boolean isBond(int b) {
        return 0 <= b && b < bonds.size();
    }

    int atom(int element, int x, int y) {
        if (element < 0 || element > 5 || !isPlace(x, y)) return -1;
        if (atoms.size() == 7) return -2;
        Atom atom = new Atom();
        atom.element = element;
        atom.x = x;
        atom.y = y;
        atoms.add(atom);
        forget();
        return atoms.size() - 1;
    }

    int bond(int a, int b, int order, int mark) {
        if (!isAtom(a) || !isAtom(b) || a == b || order < 1 || order > 3 || mark < 0 || mark > 2) return -1;
        if (between(a, b) != null) return -1;
        if (bonds.size() == 9) return -2;
        if (hydrogens(a) < order || hydrogens(b) < order) return -3;
        Bond bond = new Bond();
        bond.first = a;
        bond.second = b;
        bond.order = order;
        bond.mark = mark;
        bonds.add(bond);
        forget();
        return bonds.size() - 1;
    }

    boolean move(int a, int x, int y) {
        if (!isAtom(a) || !isPlace(x, y)) return false;
        atoms.get(a).x = x;
        atoms.get(a).y = y;
        forget();
        return true;
    }

    boolean mark(int b, int mark, int narrow) {
        if (!isBond(b) || mark < 0 || mark > 2) return false;
        Bond bond = bonds.get(b);
        if (bond.first != narrow && bond.second != narrow) return false;
        if (bond.second == narrow) {
            bond.second = bond.first;
            bond.first = narrow;
        }
        bond.mark = mark;
        forget();
        return true;
    }

    int clear() {
        int count = atoms.size();
        atoms.clear();
        bonds.clear();
        forget();
        return count;
    }

    int flip() {
        int count = 0;
        for (Bond bond : bonds) {
            if (bond.mark > 0) {
                bond.mark = 3 - bond.mark;
                count++;
            }
        }
        forget();
        return count;
    }

    int hydrogens(int a) {
        if (!isAtom(a)) return -1;
        int left = VALENCES[atoms.get(a).element];
        for (Bond bond : bonds) {
            if (bond.first == a || bond.second == a) left -= bond.order;
        }
        return left;
    }

    int sense(int a) {
        if (!isAtom(a)) return -1;
        return centreSense(a, ownNumbers()) + 1 + (isCentre(a) ? 4 : 0);
    }

    int turn(int b) {
        if (!isBond(b)) return -1;
        return hingeSense(bonds.get(b), ownNumbers()) + 1 + (isHinge(bonds.get(b)) ? 4 : 0);
    }

    int row(int i) {
        return isAtom(i) ? form().rows.get(i) : -1;
    }

    int senses() {
        return form().senses;
    }

    boolean chiral() {
        return !form().isSameAs(mirrored());
    }

    int isomers() {
        int[] own = ownNumbers();
        List<Object> units = new ArrayList<>();
        for (int a = 0; a < atoms.size(); a++) {
            if (centreSense(a, own) != 0) units.add(atoms.get(a));
        }
        for (Bond bond : bonds) {
            if (hingeSense(bond, own) != 0) units.add(bond);
        }
        if (units.size() > 4) return -1;
        Set<List<Integer>> forms = new HashSet<>();
        for (int way = 0; way < 1 << units.size(); way++) {
            Set<Object> turned = new HashSet<>();
            for (int k = 0; k < units.size(); k++) {
                if ((way >> k & 1) == 1) turned.add(units.get(k));
            }
            Code code = least(turned);
            List<Integer> whole = new ArrayList<>(code.rows);
            whole.add(code.senses);
            forms.add(whole);
        }
        return forms.size();
    }

    int keep() {
        kept = form();
        return atoms.size();
    }

    int compare() {
        if (kept == null) return 3;
        if (form().isSameAs(kept)) return 0;
        if (mirrored().isSameAs(kept)) return 2;
        return form().rows.equals(kept.rows) ? 1 : 3;
    }

    int write() {
        int[] numbers = form().numbers;
        StringBuilder out = new StringBuilder();
        for (int i = 0; i < atoms.size(); i++) {
            int a = atomOf(numbers, i);
            out.append(SYMBOLS[atoms.get(a).element]);
            out.append(new String[] {"@", "", "@@"}[centreSense(a, numbers) + 1]);
            for (int j = 0; j < i; j++) {
                Bond bond = between(a, atomOf(numbers, j));
                if (bond == null) continue;
                out.append("(").append(j);
                out.append(new String[] {"", "=", "#"}[bond.order - 1]);
                out.append(new String[] {"t", "", "c"}[hingeSense(bond, numbers) + 1]);
                out.append(")");
            }
            out.append(";");
        }
        text = out.toString();
        return text.length();
    }

    int at(int i) {
        return i < 0 || i >= text.length() ? -1 : text.charAt(i);
    }

    private void forget() {
        form = null;
        mirrored = null;
    }

    private Code form() {
        if (form == null) form = least(Set.of());
        return form;
    }

    private Code mirrored() {
        if (mirrored == null) mirrored = least(new HashSet<Object>(atoms));
        return mirrored;
    }

    private int[] ownNumbers() {
        int[] numbers = new int[atoms.size()];
        for (int a = 0; a < numbers.length; a++) numbers[a] = a;
        return numbers;
    }

    private static int atomOf(int[] numbers, int number) {
        for (int a = 0; a < numbers.length; a++) {
            if (numbers[a] == number) return a;
        }
        throw new IllegalStateException("no atom has the number " + number);
    }

    private Bond between(int a, int b) {
        for (Bond bond : bonds) {
            if (bond.joins(a, b)) return bond;
        }
        return null;
    }

    /** The neighbours of a but for one, in the order of their numbers. */
    private List<Integer> neighbours(int a, int except, int[] numbers) {
        List<Integer> all = new ArrayList<>();
        for (int b = 0; b < atoms.size(); b++) {
            if (b != except && between(a, b) != null) all.add(b);
        }
        all.sort((p, q) -> Integer.compare(numbers[p], numbers[q]));
        return all;
    }

    private boolean isCentre(int a) {
        List<Integer> all = neighbours(a, -1, ownNumbers());
        if (atoms.get(a).element != 0 || all.size() < 3) return false;
        for (int b : all) {
            if (between(a, b).order != 1) return false;
        }
        return true;
    }

    private boolean isHinge(Bond bond) {
        return bond.order == 2 && isHingeEnd(bond.first, bond.second) && isHingeEnd(bond.second, bond.first);
    }

    private boolean isHingeEnd(int a, int other) {
        List<Integer> all = neighbours(a, other, ownNumbers());
        if (atoms.get(a).element > 1 || all.isEmpty() || all.size() > 2) return false;
        for (int b : all) {
            if (between(a, b).order != 1) return false;
        }
        return true;
    }

    private long[] point(int centre, int neighbour) {
        Bond bond = between(centre, neighbour);
        long z = 0;
        if (bond.first == centre && bond.mark == 1) z = 1;
        if (bond.first == centre && bond.mark == 2) z = -1;
        return new long[] {
            atoms.get(neighbour).x - atoms.get(centre).x, atoms.get(neighbour).y - atoms.get(centre).y, z};
    }

    private static long[] less(long[] p, long[] q) {
        return new long[] {p[0] - q[0], p[1] - q[1], p[2] - q[2]};
    }

    private static long determinant(long[] u, long[] v, long[] w) {
        return u[0] * (v[1] * w[2] - v[2] * w[1])
            - u[1] * (v[0] * w[2] - v[2] * w[0])
            + u[2] * (v[0] * w[1] - v[1] * w[0]);
    }

    private int centreSense(int a, int[] numbers) {
        if (!isCentre(a)) return 0;
        List<Integer> all = neighbours(a, -1, numbers);
        long[] pa = point(a, all.get(0));
        long[] pb = point(a, all.get(1));
        long[] pc = point(a, all.get(2));
        if (all.size() == 3) return Long.signum(determinant(pa, pb, pc));
        long[] pd = point(a, all.get(3));
        return Long.signum(determinant(less(pa, pd), less(pb, pd), less(pc, pd)));
    }

    private int side(Atom a, Atom b, Atom p) {
        return Long.signum((b.x - a.x) * (p.y - a.y) - (b.y - a.y) * (p.x - a.x));
    }

    private int hingeSense(Bond bond, int[] numbers) {
        if (!isHinge(bond)) return 0;
        boolean inOrder = numbers[bond.first] < numbers[bond.second];
        int a = inOrder ? bond.first : bond.second;
        int b = inOrder ? bond.second : bond.first;
        int product = 1;
        for (int end : new int[] {a, b}) {
            List<Integer> all = neighbours(end, end == a ? b : a, numbers);
            int[] sides = new int[all.size()];
            for (int k = 0; k < sides.length; k++) {
                sides[k] = side(atoms.get(a), atoms.get(b), atoms.get(all.get(k)));
                if (sides[k] == 0) return 0;
            }
            if (sides.length == 2 && sides[0] == sides[1]) return 0;
            product *= sides[0];
        }
        return product;
    }

    private Code code(int[] numbers) {
        Code code = new Code();
        code.numbers = numbers;
        int n = atoms.size();
        for (int i = 0; i < n; i++) {
            int a = atomOf(numbers, i);
            int row = 65536 * (8 * atoms.get(a).element + hydrogens(a));
            for (int j = 0, weight = 1; j < i; j++, weight *= 4) {
                Bond bond = between(a, atomOf(numbers, j));
                row += bond == null ? 0 : bond.order * weight;
            }
            code.rows.add(row);
        }
        return code;
    }

    private int sensesOf(int[] numbers, Set<Object> turned) {
        int senses = 0;
        for (int i = 0; i < atoms.size(); i++) {
            int a = atomOf(numbers, i);
            senses = 3 * senses + centreSense(a, numbers) * (turned.contains(atoms.get(a)) ? -1 : 1) + 1;
        }
        for (int greater = 0; greater < atoms.size(); greater++) {
            for (int lesser = 0; lesser < greater; lesser++) {
                Bond bond = between(atomOf(numbers, greater), atomOf(numbers, lesser));
                if (bond != null && isHinge(bond)) {
                    senses = 3 * senses + hingeSense(bond, numbers) * (turned.contains(bond) ? -1 : 1) + 1;
                }
            }
        }
        return senses;
    }

    private Code least(Set<Object> turned) {
        Code[] best = new Code[1];
        tryAll(ownNumbers(), 0, turned, best);
        return best[0];
    }

    private void tryAll(int[] numbers, int done, Set<Object> turned, Code[] best) {
        if (done == numbers.length) {
            Code code = code(Arrays.copyOf(numbers, done));
            // The senses are dear to find, and wanted only where the rows are not greater.
            code.senses = -1;
            if (best[0] != null && !code.isLessThan(best[0])) return;
            code.senses = sensesOf(numbers, turned);
            if (best[0] == null || code.isLessThan(best[0])) best[0] = code;
            return;
        }
        for (int k = done; k < numbers.length; k++) {
            swap(numbers, done, k);
            tryAll(numbers, done + 1, turned, best);
            swap(numbers, done, k);
        }
    }

    private static void swap(int[] numbers, int i, int j) {
        int kept = numbers[i];
        numbers[i] = numbers[j];
        numbers[j] = kept;
    }
}
