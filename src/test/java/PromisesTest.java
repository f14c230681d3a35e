/** Each promise by itself: ordinary inputs, the edges that the document names, and wrong inputs. */
public final class PromisesTest {
    private static final int[] NEVER_NODES = {-1, 31, 32, 1000, Integer.MIN_VALUE, Integer.MAX_VALUE};

    /** Makes the same tree each time, so that one with a call and one without can be compared. */
    private interface Maker {
        TreeContract make();
    }

    private interface Call {
        int on(TreeContract tree);
    }

    public static void main(String[] args) {
        newObject();
        growOrdinary();
        growTakesTheLeastFreeNumbers();
        growUntilFull();
        growRefused();
        shrinkOrdinary();
        shrinkRefused();
        setOrdinary();
        setRefused();
        setSortOrdinary();
        setSortRefused();
        turnOrdinary();
        turnRefused();
        valueOfEverySort();
        valueWraps();
        valueRefused();
        slopeOfEverySort();
        slopeThroughSeveralJoints();
        slopeRefused();
        leftAndRight();
        jointsCounts();
        objectsAreApart();
        Check.finish();
    }

    // Promise 1

    private static void newObject() {
        TreeContract tree = new TreeContract();
        Check.due("new: value(0)", tree.value(0), 0);
        Check.due("new: joints()", tree.joints(), 0);
        Check.due("new: slope(0)", tree.slope(0), 1);
        Check.due("new: left(0)", tree.left(0), -1);
        Check.due("new: right(0)", tree.right(0), -1);
        for (int node = 1; node <= 30; node++) {
            Check.due("new: slope(" + node + ")", tree.slope(node), 0);
            Check.due("new: set(" + node + ", 1)", tree.set(node, 1), -1);
        }
        Check.due("new: set(0, 5)", tree.set(0, 5), 0);
    }

    // Promise 2

    private static void growOrdinary() {
        TreeContract tree = new TreeContract();
        tree.set(0, 99);
        Check.due("grow(0, 2, 10, 3)", tree.grow(0, 2, 10, 3), 1);
        Check.due("grow: value(0)", tree.value(0), 7);
        Check.due("grow: value(1)", tree.value(1), 10);
        Check.due("grow: value(2)", tree.value(2), 3);
        Check.due("grow: left(0)", tree.left(0), 1);
        Check.due("grow: right(0)", tree.right(0), 2);
        Check.due("grow: left(1)", tree.left(1), -1);
        Check.due("grow: right(2)", tree.right(2), -1);
        Check.due("grow: set(1, 4)", tree.set(1, 4), 0);
        Check.due("grow: set(2, 4)", tree.set(2, 4), 0);
        Check.due("grow below: grow(2, 0, 5, 6)", tree.grow(2, 0, 5, 6), 3);
        Check.due("grow below: value(0)", tree.value(0), -7);

        int[] sorts = {4, 5, 6, 7, -4, -3, -2, -1, Integer.MIN_VALUE, Integer.MAX_VALUE};
        int[] values = {13, 30, 7, -7, 13, 30, 7, -7, 13, -7};
        for (int i = 0; i < sorts.length; i++) {
            Check.due("grow(0, " + sorts[i] + ", 10, 3): value(0)", pair(sorts[i], 10, 3).value(0), values[i]);
        }
    }

    private static void growTakesTheLeastFreeNumbers() {
        TreeContract tree = fourLeaves();
        tree.shrink(1);
        Check.due("freed 3 and 4: grow(6)", tree.grow(6, 0, 1, 1), 3);
        Check.due("freed 3 and 4: right(6)", tree.right(6), 4);
        Check.due("child below its joint's number: value(0)", tree.value(0), 30 + (10 - 2));

        TreeContract reused = fourLeaves();
        reused.grow(5, 0, 0, 0);
        reused.shrink(1);
        reused.grow(7, 0, 0, 0);
        Check.due("3 and 4 used again: left(7)", reused.left(7), 3);
        Check.due("3 and 4 used again: grow(1)", reused.grow(1, 0, 0, 0), 9);
        Check.due("3 and 4 used again: right(1)", reused.right(1), 10);
    }

    private static void growUntilFull() {
        TreeContract tree = full();
        Check.due("full: joints()", tree.joints(), 15);
        Check.due("full: grow(30)", tree.grow(30, 0, 1, 1), -1);
        Check.due("full: grow(1)", tree.grow(1, 0, 1, 1), -1);
        Check.due("full: shrink(28)", tree.shrink(28), 0);
        Check.due("full but for two: grow(1)", tree.grow(1, 0, 8, 9), 29);
        Check.due("full but for two: right(1)", tree.right(1), 30);
        Check.due("full but for two: value(30)", tree.value(30), 9);
        Check.due("full again: grow(28)", tree.grow(28, 0, 1, 1), -1);
    }

    private static void growRefused() {
        for (int node : NEVER_NODES) {
            refused("grow(" + node + ")", -1, PromisesTest::fourLeaves, tree -> tree.grow(node, 1, 7, 8));
        }
        refused("grow of a number not there", -1, PromisesTest::fourLeaves, tree -> tree.grow(7, 1, 7, 8));
        refused("grow of a joint", -1, PromisesTest::fourLeaves, tree -> tree.grow(1, 0, 7, 8));
        refused("grow of the root as a joint", -1, PromisesTest::fourLeaves, tree -> tree.grow(0, 0, 7, 8));
        refused("grow of a shrunk child", -1, PromisesTest::shrunk, tree -> tree.grow(3, 0, 7, 8));
        refused("grow when full", -1, PromisesTest::full, tree -> tree.grow(30, 0, 7, 8));
    }

    // Promise 3

    private static void shrinkOrdinary() {
        TreeContract tree = fourLeaves();
        Check.due("shrink(1)", tree.shrink(1), 0);
        Check.due("shrink: value(1)", tree.value(1), 30);
        Check.due("shrink: value(0)", tree.value(0), 37);
        Check.due("shrink: value(3)", tree.value(3), 0);
        Check.due("shrink: value(4)", tree.value(4), 0);
        Check.due("shrink: left(1)", tree.left(1), -1);
        Check.due("shrink: right(1)", tree.right(1), -1);
        Check.due("shrink: slope(1)", tree.slope(1), 1);
        Check.due("shrink: joints()", tree.joints(), 2);
        Check.due("shrink: set(3, 1)", tree.set(3, 1), -1);
        Check.due("shrink: set(4, 1)", tree.set(4, 1), -1);
        Check.due("shrink: shrink(1) again", tree.shrink(1), -1);
        Check.due("shrink: set(1, 2)", tree.set(1, 2), 0);
        Check.due("shrink: value(0) after set", tree.value(0), 9);
        Check.due("shrink(2)", tree.shrink(2), 0);
        Check.due("shrink(0)", tree.shrink(0), 0);
        Check.due("shrunk to the root: value(0)", tree.value(0), 9);
        Check.due("shrunk to the root: slope(0)", tree.slope(0), 1);
        Check.due("shrunk to the root: joints()", tree.joints(), 0);

        TreeContract turned = fourLeaves();
        turned.turn(2);
        Check.due("turned: shrink(2)", turned.shrink(2), 0);
        Check.due("turned: value(2)", turned.value(2), -7);
    }

    private static void shrinkRefused() {
        for (int node : NEVER_NODES) {
            refused("shrink(" + node + ")", -1, PromisesTest::fourLeaves, tree -> tree.shrink(node));
        }
        refused("shrink of a number not there", -1, PromisesTest::fourLeaves, tree -> tree.shrink(7));
        refused("shrink of a leaf", -1, PromisesTest::fourLeaves, tree -> tree.shrink(3));
        refused("shrink of a shrunk child", -1, PromisesTest::shrunk, tree -> tree.shrink(3));
        refused("shrink of the root as a leaf", -1, TreeContract::new, tree -> tree.shrink(0));
        refused("shrink over two joints", -1, PromisesTest::fourLeaves, tree -> tree.shrink(0));
        refused("shrink over a joint on the left", -1, () -> grownUnderRoot(1), tree -> tree.shrink(0));
        refused("shrink over a joint on the right", -1, () -> grownUnderRoot(2), tree -> tree.shrink(0));
    }

    // Promise 4

    private static void setOrdinary() {
        TreeContract tree = fourLeaves();
        Check.due("set(3, -2)", tree.set(3, -2), 0);
        Check.due("set: value(3)", tree.value(3), -2);
        Check.due("set: value(4)", tree.value(4), 6);
        Check.due("set: value(1)", tree.value(1), -12);
        Check.due("set: value(2)", tree.value(2), 7);
        Check.due("set: value(0)", tree.value(0), -5);
        Check.due("set least", tree.set(6, Integer.MIN_VALUE), 0);
        Check.due("set least: value(6)", tree.value(6), Integer.MIN_VALUE);
        Check.due("set greatest", tree.set(6, Integer.MAX_VALUE), 0);
        Check.due("set greatest: value(6)", tree.value(6), Integer.MAX_VALUE);

        TreeContract root = new TreeContract();
        Check.due("set(0, -1)", root.set(0, -1), 0);
        Check.due("set: value of the root", root.value(0), -1);

        TreeContract deep = full();
        Check.due("set at the greatest depth", deep.set(30, 1000), 0);
        Check.due("set at the greatest depth: value(0)", deep.value(0), 15 + 1000);
    }

    private static void setRefused() {
        for (int node : NEVER_NODES) {
            refused("set(" + node + ", 5)", -1, PromisesTest::fourLeaves, tree -> tree.set(node, 5));
        }
        refused("set of a number not there", -1, PromisesTest::fourLeaves, tree -> tree.set(7, 5));
        refused("set of a joint", -1, PromisesTest::fourLeaves, tree -> tree.set(1, 5));
        refused("set of the root as a joint", -1, PromisesTest::fourLeaves, tree -> tree.set(0, 5));
        refused("set of a shrunk child", -1, PromisesTest::shrunk, tree -> tree.set(4, 5));
    }

    // Promise 5

    private static void setSortOrdinary() {
        int[] sorts = {0, 1, 2, 3, 4, 7, -1, -2, Integer.MIN_VALUE, Integer.MAX_VALUE};
        int[] values = {37, 210, 23, -23, 37, -23, -23, 23, 37, -23};
        for (int i = 0; i < sorts.length; i++) {
            TreeContract tree = fourLeaves();
            Check.due("setSort(0, " + sorts[i] + ")", tree.setSort(0, sorts[i]), 0);
            Check.due("setSort(0, " + sorts[i] + "): value(0)", tree.value(0), values[i]);
            Check.due("setSort(0, " + sorts[i] + "): value(1)", tree.value(1), 30);
        }
        TreeContract tree = fourLeaves();
        Check.due("setSort(2, 1)", tree.setSort(2, 1), 0);
        Check.due("setSort below: value(2)", tree.value(2), 30);
        Check.due("setSort below: value(0)", tree.value(0), 60);
        Check.due("setSort below: slope(5)", tree.slope(5), 3);
    }

    private static void setSortRefused() {
        for (int node : NEVER_NODES) {
            refused("setSort(" + node + ", 3)", -1, PromisesTest::fourLeaves, tree -> tree.setSort(node, 3));
        }
        refused("setSort of a number not there", -1, PromisesTest::fourLeaves, tree -> tree.setSort(7, 3));
        refused("setSort of a leaf", -1, PromisesTest::fourLeaves, tree -> tree.setSort(3, 3));
        refused("setSort of a shrunk joint", -1, PromisesTest::shrunk, tree -> tree.setSort(1, 0));
        refused("setSort of the root as a leaf", -1, TreeContract::new, tree -> tree.setSort(0, 1));
    }

    // Promise 6

    private static void turnOrdinary() {
        TreeContract tree = fourLeaves();
        Check.due("turn(2)", tree.turn(2), 0);
        Check.due("turn: left(2)", tree.left(2), 6);
        Check.due("turn: right(2)", tree.right(2), 5);
        Check.due("turn: value(2)", tree.value(2), -7);
        Check.due("turn: value(0)", tree.value(0), 23);
        Check.due("turn: value(5)", tree.value(5), 10);
        Check.due("turn: slope(5)", tree.slope(5), -1);
        Check.due("turn: slope(6)", tree.slope(6), 1);
        Check.due("turn of joints", tree.turn(0), 0);
        Check.due("turn of joints: left(0)", tree.left(0), 2);
        Check.due("turn of joints: right(0)", tree.right(0), 1);
        Check.due("turn of joints: left(1)", tree.left(1), 3);
        Check.due("turn back", tree.turn(2), 0);
        Check.due("turn back: left(2)", tree.left(2), 5);
        Check.due("turn back: value(0)", tree.value(0), 37);
    }

    private static void turnRefused() {
        for (int node : NEVER_NODES) {
            refused("turn(" + node + ")", -1, PromisesTest::fourLeaves, tree -> tree.turn(node));
        }
        refused("turn of a number not there", -1, PromisesTest::fourLeaves, tree -> tree.turn(7));
        refused("turn of a leaf", -1, PromisesTest::fourLeaves, tree -> tree.turn(3));
        refused("turn of a shrunk joint", -1, PromisesTest::shrunk, tree -> tree.turn(1));
        refused("turn of the root as a leaf", -1, TreeContract::new, tree -> tree.turn(0));
    }

    // Promise 7

    private static void valueOfEverySort() {
        Check.due("10 + 3", pair(0, 10, 3).value(0), 13);
        Check.due("10 * 3", pair(1, 10, 3).value(0), 30);
        Check.due("10 - 3", pair(2, 10, 3).value(0), 7);
        Check.due("3 - 10", pair(3, 10, 3).value(0), -7);
        Check.due("full: value(0)", full().value(0), 16);
        Check.due("full: value(28)", full().value(28), 2);
    }

    private static void valueWraps() {
        Check.due("greatest + 1", pair(0, Integer.MAX_VALUE, 1).value(0), Integer.MIN_VALUE);
        Check.due("least * -1", pair(1, Integer.MIN_VALUE, -1).value(0), Integer.MIN_VALUE);
        Check.due("65536 * 65536", pair(1, 65536, 65536).value(0), 0);
        Check.due("least - 1", pair(2, Integer.MIN_VALUE, 1).value(0), Integer.MAX_VALUE);
        Check.due("least - greatest, turned", pair(3, Integer.MAX_VALUE, Integer.MIN_VALUE).value(0), 1);
    }

    private static void valueRefused() {
        for (int node : NEVER_NODES) {
            refused("value(" + node + ")", 0, PromisesTest::fourLeaves, tree -> tree.value(node));
        }
        refused("value of a number not there", 0, PromisesTest::fourLeaves, tree -> tree.value(7));
        refused("value of a shrunk child", 0, PromisesTest::shrunk, tree -> tree.value(3));
    }

    // Promise 8

    private static void slopeOfEverySort() {
        int[] ofLeft = {1, 3, 1, -1};
        int[] ofRight = {1, 10, -1, 1};
        for (int sort = 0; sort < 4; sort++) {
            TreeContract tree = pair(sort, 10, 3);
            Check.due("sort " + sort + ": slope(1)", tree.slope(1), ofLeft[sort]);
            Check.due("sort " + sort + ": slope(2)", tree.slope(2), ofRight[sort]);
        }
        Check.due("times itself: slope(2)", pair(1, 7, 7).slope(2), 7);
    }

    private static void slopeThroughSeveralJoints() {
        TreeContract tree = fourLeaves();
        tree.setSort(0, 1);
        Check.due("(5 * 6) * (10 - 3): slope(3)", tree.slope(3), 42);
        Check.due("(5 * 6) * (10 - 3): slope(4)", tree.slope(4), 35);
        Check.due("(5 * 6) * (10 - 3): slope(5)", tree.slope(5), 30);
        Check.due("(5 * 6) * (10 - 3): slope(6)", tree.slope(6), -30);
        tree.setSort(0, 3);
        Check.due("(10 - 3) - (5 * 6): slope(3)", tree.slope(3), -6);
        Check.due("(10 - 3) - (5 * 6): slope(6)", tree.slope(6), -1);
        tree.setSort(0, 1);
        tree.set(4, 65536);
        tree.set(5, 65539);
        Check.due("65536 * 65536: slope(3)", tree.slope(3), 0);
        tree.set(6, Integer.MAX_VALUE);
        Check.due("slope that wraps: slope(3)", tree.slope(3), 65536 * (65539 - Integer.MAX_VALUE));

        TreeContract deep = full();
        deep.setSort(0, 1);
        deep.set(1, -9);
        Check.due("slope at the greatest depth", deep.slope(30), -9);
        Check.due("slope at the greatest value", greatestRoot().slope(0), 1);
    }

    private static void slopeRefused() {
        for (int node : NEVER_NODES) {
            refused("slope(" + node + ")", 0, PromisesTest::fourLeaves, tree -> tree.slope(node));
        }
        refused("slope of a number not there", 0, PromisesTest::fourLeaves, tree -> tree.slope(7));
        refused("slope of a joint", 0, PromisesTest::fourLeaves, tree -> tree.slope(1));
        refused("slope of the root as a joint", 0, PromisesTest::fourLeaves, tree -> tree.slope(0));
        refused("slope of a shrunk child", 0, PromisesTest::shrunk, tree -> tree.slope(3));
    }

    // Promises 9 and 10

    private static void leftAndRight() {
        TreeContract tree = fourLeaves();
        int[] lefts = {1, 3, 5, -1, -1, -1, -1, -1};
        int[] rights = {2, 4, 6, -1, -1, -1, -1, -1};
        for (int node = 0; node < lefts.length; node++) {
            Check.due("left(" + node + ")", tree.left(node), lefts[node]);
            Check.due("right(" + node + ")", tree.right(node), rights[node]);
        }
        for (int node : NEVER_NODES) {
            refused("left(" + node + ")", -1, PromisesTest::fourLeaves, made -> made.left(node));
            refused("right(" + node + ")", -1, PromisesTest::fourLeaves, made -> made.right(node));
        }
        refused("left of a shrunk joint", -1, PromisesTest::shrunk, made -> made.left(1));
        refused("right of a shrunk joint", -1, PromisesTest::shrunk, made -> made.right(1));

        TreeContract gone = fourLeaves();
        gone.shrink(1);
        gone.shrink(2);
        gone.shrink(0);
        Check.due("left of a joint that is gone", gone.left(1), -1);
        Check.due("right of a joint that is gone", gone.right(1), -1);
        gone.grow(0, 0, 1, 2);
        Check.due("left of a leaf that was a joint before", gone.left(1), -1);
        Check.due("right of a leaf that was a joint before", gone.right(1), -1);
    }

    // Promise 11

    private static void jointsCounts() {
        TreeContract tree = new TreeContract();
        for (int count = 0; count < 15; count++) {
            Check.due("joints() after " + count + " grown", tree.joints(), count);
            tree.grow(2 * count, 0, 1, 1);
        }
        Check.due("joints() when full", tree.joints(), 15);
        tree.grow(30, 0, 1, 1);
        Check.due("joints() after a refused grow", tree.joints(), 15);
        tree.shrink(0);
        Check.due("joints() after a refused shrink", tree.joints(), 15);
        for (int count = 14; count >= 0; count--) {
            tree.shrink(2 * count);
            Check.due("joints() shrunk to " + count, tree.joints(), count);
        }
    }

    private static void objectsAreApart() {
        TreeContract one = new TreeContract();
        TreeContract other = fourLeaves();
        one.set(0, 8);
        Check.due("one object: value(0)", one.value(0), 8);
        Check.due("one object: joints()", one.joints(), 0);
        Check.due("other object: value(0)", other.value(0), 37);
    }

    /** A refused call answers as said, and the tree then looks like one that never had the call. */
    private static void refused(String name, int answer, Maker maker, Call call) {
        TreeContract called = maker.make();
        Check.due(name, call.on(called), answer);
        TreeContract untouched = maker.make();
        Check.due("all after the refused " + name, look(called), look(untouched));
        Check.due("next number after the refused " + name, nextNumber(called), nextNumber(untouched));
    }

    private static String look(TreeContract tree) {
        StringBuilder all = new StringBuilder("joints " + tree.joints());
        for (int node = 0; node <= 30; node++) {
            all.append("; ").append(node).append(": ").append(tree.value(node)).append(' ').append(tree.slope(node))
                    .append(' ').append(tree.left(node)).append(' ').append(tree.right(node));
        }
        return all.toString();
    }

    /** What a later grow would take tells of numbers that a refused call used up unseen. */
    private static int nextNumber(TreeContract tree) {
        int found = -1;
        for (int node = 0; node <= 30 && found == -1; node++) {
            found = tree.grow(node, 0, 0, 0);
        }
        return found;
    }

    private static TreeContract pair(int sort, int x, int y) {
        TreeContract tree = new TreeContract();
        tree.grow(0, sort, x, y);
        return tree;
    }

    /** (5 * 6) + (10 - 3): joints 0, 1 and 2, leaves 3 to 6. */
    private static TreeContract fourLeaves() {
        TreeContract tree = pair(0, 3, 4);
        tree.grow(1, 1, 5, 6);
        tree.grow(2, 2, 10, 3);
        return tree;
    }

    private static TreeContract shrunk() {
        TreeContract tree = fourLeaves();
        tree.shrink(1);
        return tree;
    }

    private static TreeContract grownUnderRoot(int node) {
        TreeContract tree = pair(0, 3, 4);
        tree.grow(node, 1, 5, 6);
        return tree;
    }

    /** All numbers used and as deep as can be: sums of sixteen leaves of the value 1. */
    private static TreeContract full() {
        TreeContract tree = new TreeContract();
        for (int joint = 0; joint < 30; joint += 2) {
            tree.grow(joint, 0, 1, 1);
        }
        return tree;
    }

    private static TreeContract greatestRoot() {
        TreeContract tree = new TreeContract();
        tree.set(0, Integer.MAX_VALUE);
        return tree;
    }
}
