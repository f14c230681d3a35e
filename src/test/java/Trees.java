import java.util.List;
import java.util.function.Supplier;

/** Trees for the tests, and all that can be seen of one. */
final class Trees {
    /** The most calls that making a sample takes. */
    static final int CALLS_OF_MAKING = 16;
    static final int CALLS_OF_TRACE = 125 + 3 * 31 + 125 + 2 * 31;

    private Trees() {
    }

    /**
     * A tree that is made the same each time, so that one with a call and one without can be compared. Its shape has
     * a letter for each number: L for a leaf, S for a joint over two leaves, J for any other joint, a dot for none.
     */
    static final class Sample {
        final String name;
        final Supplier<TreeContract> maker;
        private final String shape;

        Sample(String name, String shape, Supplier<TreeContract> maker) {
            this.name = name;
            this.shape = shape;
            this.maker = maker;
        }

        TreeContract make() {
            return maker.get();
        }

        char letter(int node) {
            return node >= 0 && node < shape.length() ? shape.charAt(node) : '.';
        }

        boolean isThere(int node) {
            return letter(node) != '.';
        }

        boolean isLeaf(int node) {
            return letter(node) == 'L';
        }

        boolean isJoint(int node) {
            return isThere(node) && !isLeaf(node);
        }

        boolean isOverTwoLeaves(int node) {
            return letter(node) == 'S';
        }

        boolean isFull() {
            return shape.length() == 31 && shape.indexOf('.') == -1;
        }
    }

    // No node of them has the value 0 and no leaf the slope 0, so that an answer
    // tells a refused value or slope from one that is not.
    static final List<Sample> SAMPLES = List.of(
            new Sample("root alone", "L", Trees::rootOfSeven),
            new Sample("one joint", "SLL", () -> pair(2, 10, 3)),
            new Sample("joint on the left", "JSLLL", () -> grownUnderRoot(1)),
            new Sample("joint on the right", "JLSLL", () -> grownUnderRoot(2)),
            new Sample("four leaves", "JSSLLLL", Trees::fourLeaves),
            new Sample("turned", "JSSLLLL", Trees::turned),
            new Sample("shrunk", "JLS..LL", Trees::shrunk),
            new Sample("shrunk to the root", "L", Trees::shrunkToRoot),
            new Sample("grown again", "SLL", Trees::grownAgain),
            new Sample("children with lesser numbers", "JLJLLLS", Trees::childrenWithLesserNumbers),
            new Sample("full and deep", "JLJLJLJLJLJLJLJLJLJLJLJLJLJLSLL", Trees::fullAndDeep),
            new Sample("full and broad", "JJJJJJJSSSSSSSSLLLLLLLLLLLLLLLL", Trees::fullAndBroad),
            new Sample("full but for two", "JLJLJLJLJLJLJLJLJLJLJLJLJLSLL", Trees::fullButForTwo));

    static TreeContract pair(int sort, int x, int y) {
        TreeContract tree = new TreeContract();
        tree.grow(0, sort, x, y);
        return tree;
    }

    /** (5 * 6) + (10 - 3): joints 0, 1 and 2, leaves 3 to 6. */
    static TreeContract fourLeaves() {
        TreeContract tree = pair(0, 3, 4);
        tree.grow(1, 1, 5, 6);
        tree.grow(2, 2, 10, 3);
        return tree;
    }

    /** All numbers used and as deep as can be: joints 0, 2 to 28, by turns sums and products of 2 and what is below. */
    static TreeContract fullAndDeep() {
        TreeContract tree = new TreeContract();
        for (int joint = 0; joint < 30; joint += 2) {
            tree.grow(joint, joint / 2 % 2, 2, 3);
        }
        return tree;
    }

    /** As deep, with one sort for all joints and one value for all leaves. */
    static TreeContract deepOf(int sort, int value) {
        TreeContract tree = new TreeContract();
        for (int joint = 0; joint < 30; joint += 2) {
            tree.grow(joint, sort, value, value);
        }
        return tree;
    }

    /** All numbers used and as broad as can be: joints 0 to 14, leaves 15 to 30. */
    static TreeContract fullAndBroad() {
        TreeContract tree = new TreeContract();
        for (int joint = 0; joint < 15; joint++) {
            tree.grow(joint, joint % 2, 2, 3);
        }
        return tree;
    }

    static TreeContract fullButForTwo() {
        TreeContract tree = fullAndDeep();
        tree.shrink(28);
        return tree;
    }

    static TreeContract shrunk() {
        TreeContract tree = fourLeaves();
        tree.shrink(1);
        return tree;
    }

    static TreeContract shrunkToRoot() {
        TreeContract tree = shrunk();
        tree.shrink(2);
        tree.shrink(0);
        return tree;
    }

    /** Nodes 1 and 2 are leaves and have been joints before. */
    static TreeContract grownAgain() {
        TreeContract tree = shrunkToRoot();
        tree.grow(0, 3, 2, 9);
        return tree;
    }

    /** 30 + (10 - (20 - 9)): node 6 is a joint with the children 3 and 4. */
    static TreeContract childrenWithLesserNumbers() {
        TreeContract tree = shrunk();
        tree.grow(6, 2, 20, 9);
        return tree;
    }

    private static TreeContract rootOfSeven() {
        TreeContract tree = new TreeContract();
        tree.set(0, 7);
        return tree;
    }

    private static TreeContract grownUnderRoot(int node) {
        TreeContract tree = pair(0, 3, 4);
        tree.grow(node, 1, 5, 6);
        return tree;
    }

    private static TreeContract turned() {
        TreeContract tree = fourLeaves();
        tree.turn(0);
        tree.turn(2);
        return tree;
    }

    /** The answers of all calls that change nothing. */
    static String look(TreeContract tree) {
        StringBuilder all = new StringBuilder("joints " + tree.joints());
        for (int node = 0; node <= 30; node++) {
            all.append("; ").append(node).append(": ").append(tree.value(node)).append(' ').append(tree.slope(node))
                    .append(' ').append(tree.left(node)).append(' ').append(tree.right(node));
        }
        return all.toString();
    }

    /** A look, and the answers of changes of every kind after it: what no look shows may show in these. */
    static String trace(TreeContract tree) {
        StringBuilder all = new StringBuilder(look(tree));
        all.append("; changed:");
        for (int node = 30; node >= 0; node--) {
            all.append(' ').append(tree.set(node, 7 * node + 1)).append(tree.setSort(node, node))
                    .append(tree.turn(node));
        }
        all.append("; ").append(look(tree)).append("; shrunk:");
        for (int node = 30; node >= 0; node--) {
            all.append(' ').append(tree.shrink(node));
        }
        all.append("; grown:");
        for (int node = 0; node <= 30; node++) {
            all.append(' ').append(tree.grow(node, 0, 1, 1));
        }
        return all.toString();
    }
}
