/** Each promise by itself, with ordinary inputs; EdgesTest has the boundary cases and the wrong inputs. */
public final class PromisesTest {
    public static void main(String[] args) {
        newObject();
        growOrdinary();
        growTakesTheLeastFreeNumbers();
        shrinkOrdinary();
        setOrdinary();
        setSortOrdinary();
        turnOrdinary();
        valueOfEverySort();
        slopeOfEverySort();
        slopeThroughSeveralJoints();
        leftAndRight();
        jointsOrdinary();
        objectsAreApart();
        Check.finish();
    }

    // Promise 1

    private static void newObject() {
        TreeContract tree = new TreeContract();
        Check.due("new: value(0)", tree.value(0), 0);
        Check.due("new: slope(0)", tree.slope(0), 1);
        Check.due("new: joints()", tree.joints(), 0);
    }

    // Promise 2

    private static void growOrdinary() {
        TreeContract tree = new TreeContract();
        tree.set(0, 99);
        Check.due("grow(0, 2, 10, 3)", tree.grow(0, 2, 10, 3), 1);
        Check.due("grow: value(0)", tree.value(0), 7);
        Check.due("grow: value(1)", tree.value(1), 10);
        Check.due("grow: value(2)", tree.value(2), 3);
        Check.due("grow: left(0)", tree.left(0), 1);
        Check.due("grow: right(0)", tree.right(0), 2);
        Check.due("grow: left(1)", tree.left(1), -1);
        Check.due("grow: right(2)", tree.right(2), -1);
        Check.due("grow: set(1, 4)", tree.set(1, 4), 0);
        Check.due("grow: set(2, 4)", tree.set(2, 4), 0);
        Check.due("grow below: grow(2, 0, 5, 6)", tree.grow(2, 0, 5, 6), 3);
        Check.due("grow below: value(0)", tree.value(0), -7);
    }

    private static void growTakesTheLeastFreeNumbers() {
        TreeContract tree = Trees.fourLeaves();
        tree.shrink(1);
        Check.due("freed 3 and 4: grow(6)", tree.grow(6, 0, 1, 1), 3);
        Check.due("freed 3 and 4: right(6)", tree.right(6), 4);
        Check.due("child below its joint's number: value(0)", tree.value(0), 30 + (10 - 2));

        TreeContract reused = Trees.fourLeaves();
        reused.grow(5, 0, 0, 0);
        reused.shrink(1);
        reused.grow(7, 0, 0, 0);
        Check.due("3 and 4 used again: left(7)", reused.left(7), 3);
        Check.due("3 and 4 used again: grow(1)", reused.grow(1, 0, 0, 0), 9);
        Check.due("3 and 4 used again: right(1)", reused.right(1), 10);
    }

    // Promise 3

    private static void shrinkOrdinary() {
        TreeContract tree = Trees.fourLeaves();
        Check.due("shrink(1)", tree.shrink(1), 0);
        Check.due("shrink: value(1)", tree.value(1), 30);
        Check.due("shrink: value(0)", tree.value(0), 37);
        Check.due("shrink: value(3)", tree.value(3), 0);
        Check.due("shrink: value(4)", tree.value(4), 0);
        Check.due("shrink: left(1)", tree.left(1), -1);
        Check.due("shrink: right(1)", tree.right(1), -1);
        Check.due("shrink: slope(1)", tree.slope(1), 1);
        Check.due("shrink: joints()", tree.joints(), 2);
        Check.due("shrink: set(3, 1)", tree.set(3, 1), -1);
        Check.due("shrink: set(4, 1)", tree.set(4, 1), -1);
        Check.due("shrink: shrink(1) again", tree.shrink(1), -1);
        Check.due("shrink: set(1, 2)", tree.set(1, 2), 0);
        Check.due("shrink: value(0) after set", tree.value(0), 9);
        Check.due("shrink(2)", tree.shrink(2), 0);
        Check.due("shrink(0)", tree.shrink(0), 0);
        Check.due("shrunk to the root: value(0)", tree.value(0), 9);
        Check.due("shrunk to the root: slope(0)", tree.slope(0), 1);
        Check.due("shrunk to the root: joints()", tree.joints(), 0);

        TreeContract turned = Trees.fourLeaves();
        turned.turn(2);
        Check.due("turned: shrink(2)", turned.shrink(2), 0);
        Check.due("turned: value(2)", turned.value(2), -7);
    }

    // Promise 4

    private static void setOrdinary() {
        TreeContract tree = Trees.fourLeaves();
        Check.due("set(3, -2)", tree.set(3, -2), 0);
        Check.due("set: value(3)", tree.value(3), -2);
        Check.due("set: value(4)", tree.value(4), 6);
        Check.due("set: value(1)", tree.value(1), -12);
        Check.due("set: value(2)", tree.value(2), 7);
        Check.due("set: value(0)", tree.value(0), -5);

        TreeContract root = new TreeContract();
        Check.due("set(0, -1)", root.set(0, -1), 0);
        Check.due("set: value of the root", root.value(0), -1);
    }

    // Promise 5

    private static void setSortOrdinary() {
        int[] values = {37, 210, 23, -23};
        for (int sort = 0; sort < 4; sort++) {
            TreeContract tree = Trees.fourLeaves();
            Check.due("setSort(0, " + sort + ")", tree.setSort(0, sort), 0);
            Check.due("setSort(0, " + sort + "): value(0)", tree.value(0), values[sort]);
            Check.due("setSort(0, " + sort + "): value(1)", tree.value(1), 30);
        }
        TreeContract tree = Trees.fourLeaves();
        Check.due("setSort(2, 1)", tree.setSort(2, 1), 0);
        Check.due("setSort below: value(2)", tree.value(2), 30);
        Check.due("setSort below: value(0)", tree.value(0), 60);
        Check.due("setSort below: slope(5)", tree.slope(5), 3);
    }

    // Promise 6

    private static void turnOrdinary() {
        TreeContract tree = Trees.fourLeaves();
        Check.due("turn(2)", tree.turn(2), 0);
        Check.due("turn: left(2)", tree.left(2), 6);
        Check.due("turn: right(2)", tree.right(2), 5);
        Check.due("turn: value(2)", tree.value(2), -7);
        Check.due("turn: value(0)", tree.value(0), 23);
        Check.due("turn: value(5)", tree.value(5), 10);
        Check.due("turn: slope(5)", tree.slope(5), -1);
        Check.due("turn: slope(6)", tree.slope(6), 1);
        Check.due("turn of joints", tree.turn(0), 0);
        Check.due("turn of joints: left(0)", tree.left(0), 2);
        Check.due("turn of joints: right(0)", tree.right(0), 1);
        Check.due("turn of joints: left(1)", tree.left(1), 3);
        Check.due("turn back", tree.turn(2), 0);
        Check.due("turn back: left(2)", tree.left(2), 5);
        Check.due("turn back: value(0)", tree.value(0), 37);
    }

    // Promise 7

    private static void valueOfEverySort() {
        Check.due("10 + 3", Trees.pair(0, 10, 3).value(0), 13);
        Check.due("10 * 3", Trees.pair(1, 10, 3).value(0), 30);
        Check.due("10 - 3", Trees.pair(2, 10, 3).value(0), 7);
        Check.due("3 - 10", Trees.pair(3, 10, 3).value(0), -7);
        Check.due("full: value(0)", Trees.deepOf(0, 1).value(0), 16);
        Check.due("full: value(28)", Trees.deepOf(0, 1).value(28), 2);
    }

    // Promise 8

    private static void slopeOfEverySort() {
        int[] ofLeft = {1, 3, 1, -1};
        int[] ofRight = {1, 10, -1, 1};
        for (int sort = 0; sort < 4; sort++) {
            TreeContract tree = Trees.pair(sort, 10, 3);
            Check.due("sort " + sort + ": slope(1)", tree.slope(1), ofLeft[sort]);
            Check.due("sort " + sort + ": slope(2)", tree.slope(2), ofRight[sort]);
        }
        Check.due("times itself: slope(2)", Trees.pair(1, 7, 7).slope(2), 7);
    }

    private static void slopeThroughSeveralJoints() {
        TreeContract tree = Trees.fourLeaves();
        tree.setSort(0, 1);
        Check.due("(5 * 6) * (10 - 3): slope(3)", tree.slope(3), 42);
        Check.due("(5 * 6) * (10 - 3): slope(4)", tree.slope(4), 35);
        Check.due("(5 * 6) * (10 - 3): slope(5)", tree.slope(5), 30);
        Check.due("(5 * 6) * (10 - 3): slope(6)", tree.slope(6), -30);
        tree.setSort(0, 3);
        Check.due("(10 - 3) - (5 * 6): slope(3)", tree.slope(3), -6);
        Check.due("(10 - 3) - (5 * 6): slope(6)", tree.slope(6), -1);

        TreeContract deep = Trees.deepOf(0, 1);
        deep.setSort(0, 1);
        deep.set(1, -9);
        Check.due("slope at the greatest depth", deep.slope(30), -9);
    }

    // Promises 9 and 10

    private static void leftAndRight() {
        TreeContract tree = Trees.fourLeaves();
        int[] lefts = {1, 3, 5, -1, -1, -1, -1, -1};
        int[] rights = {2, 4, 6, -1, -1, -1, -1, -1};
        for (int node = 0; node < lefts.length; node++) {
            Check.due("left(" + node + ")", tree.left(node), lefts[node]);
            Check.due("right(" + node + ")", tree.right(node), rights[node]);
        }
        tree.turn(0);
        Check.due("left(0) after turn", tree.left(0), 2);
        Check.due("right(0) after turn", tree.right(0), 1);
        tree.shrink(1);
        Check.due("left(1) after shrink", tree.left(1), -1);
        Check.due("right(1) after shrink", tree.right(1), -1);
    }

    // Promise 11

    private static void jointsOrdinary() {
        TreeContract tree = Trees.fourLeaves();
        Check.due("four leaves: joints()", tree.joints(), 3);
        tree.turn(0);
        tree.set(3, 0);
        Check.due("after turn and set: joints()", tree.joints(), 3);
        tree.shrink(2);
        Check.due("after shrink: joints()", tree.joints(), 2);
        tree.grow(2, 0, 1, 1);
        tree.grow(5, 0, 1, 1);
        Check.due("after grow twice: joints()", tree.joints(), 4);
    }

    private static void objectsAreApart() {
        TreeContract one = new TreeContract();
        TreeContract other = Trees.fourLeaves();
        one.set(0, 8);
        Check.due("one object: value(0)", one.value(0), 8);
        Check.due("one object: joints()", one.joints(), 0);
        Check.due("other object: value(0)", other.value(0), 37);
    }
}
