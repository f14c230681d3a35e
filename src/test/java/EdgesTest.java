import java.math.BigInteger;
import java.util.ArrayList;
import java.util.HashMap;
import java.util.List;
import java.util.Map;

/** Each sentence of the document that names a boundary case, by its words, with a test of its own. */
public final class EdgesTest {
    private static final int LEAST = Integer.MIN_VALUE;
    private static final int GREATEST = Integer.MAX_VALUE;
    private static final int CALLS_ALLOWED = 512;
    private static final int REFUSALS_IN_A_ROW = CALLS_ALLOWED - Trees.CALLS_OF_MAKING - Trees.CALLS_OF_TRACE;

    // Behind them stand numbers that a mask or a cast to fewer bits would turn into those of nodes.
    private static final int[] NEVER_NODES = {-1, 31, -2, -3, -30, -31, -32, 32, 33, 34, 35, 62, 63, 64, 67, 128, 131,
        256, 259, 65536, 65539, LEAST, LEAST + 3, LEAST + 31, GREATEST, GREATEST - 31};

    private interface NodeCall {
        int on(TreeContract tree, int node);
    }

    private interface SortCall {
        TreeContract tenAndThree(int sort);
    }

    private interface Rule {
        boolean allows(Trees.Sample sample, int node);
    }

    /** A call with a node number, what it answers if it is refused, and where it is not. */
    private static final class Asked {
        final String name;
        final int refusal;
        final Rule rule;
        final NodeCall call;

        Asked(String name, int refusal, Rule rule, NodeCall call) {
            this.name = name;
            this.refusal = refusal;
            this.rule = rule;
            this.call = call;
        }
    }

    private static final Asked GROW = new Asked("grow", -1,
            (sample, node) -> sample.isLeaf(node) && !sample.isFull(), (tree, node) -> tree.grow(node, 1, 8, 9));
    private static final Asked SHRINK = new Asked("shrink", -1, Trees.Sample::isOverTwoLeaves, TreeContract::shrink);
    private static final Asked SET = new Asked("set", -1, Trees.Sample::isLeaf, (tree, node) -> tree.set(node, 1234));
    private static final Asked SET_SORT = new Asked("setSort", -1, Trees.Sample::isJoint,
            (tree, node) -> tree.setSort(node, 3));
    private static final Asked TURN = new Asked("turn", -1, Trees.Sample::isJoint, TreeContract::turn);
    private static final Asked VALUE = new Asked("value", 0, Trees.Sample::isThere, TreeContract::value);
    private static final Asked SLOPE = new Asked("slope", 0, Trees.Sample::isLeaf, TreeContract::slope);
    private static final Asked LEFT = new Asked("left", -1, Trees.Sample::isJoint, TreeContract::left);
    private static final Asked RIGHT = new Asked("right", -1, Trees.Sample::isJoint, TreeContract::right);
    private static final List<Asked> ALL = List.of(GROW, SHRINK, SET, SET_SORT, TURN, VALUE, SLOPE, LEFT, RIGHT);

    public static void main(String[] args) {
        whatItIs();
        terms();
        promise1();
        promise2();
        promise3();
        promise4();
        promise5();
        promise6();
        promise7();
        promise8();
        promises9And10();
        promise11();
        Check.finish();
    }

    private static void whatItIs() {
        Check.sentence("An object is used for at most 512 calls after it has been made");
        last512thCall();
        Check.sentence("what later calls answer is free");
        laterCallsEnd();
    }

    private static void terms() {
        Check.sentence("NODES have numbers from 0 to 30.");
        numbersFrom0To30();
        Check.sentence("Node 0 is always there; it is the ROOT.");
        node0IsAlwaysThere();
        Check.sentence("A node that is there is a LEAF, with a value (an int), or a JOINT");
        leafOrJoint();
        Check.sentence("Every node that is there but the root is the child of exactly one joint.");
        childOfExactlyOneJoint();
        Check.sentence("At the start only node 0 is there: a leaf with the value 0.");
        node0AloneAtTheStart();
        Check.sentence("All arithmetic wraps as in Java.");
        arithmeticWraps();
        Check.sentence("A node number that is not that of a node that is there is refused");
        numbersNotThereAreRefused();
        Check.sentence("a refused call answers as said and changes nothing");
        manyRefusalsChangeNothing();
    }

    private static void promise1() {
        Check.sentence("Promise 1: Only the root is there, a leaf with the value 0.");
        newObject();
    }

    private static void promise2() {
        Check.sentence("Promise 2: The leaf becomes a joint of the sort sort & 3");
        sortIsMasked(sort -> Trees.pair(sort, 10, 3));
        Check.sentence("Promise 2: the left one has the least number that no node has and the value x,"
                + " the right one the next least such number and the value y");
        growTakesTheLeastNumbers();
        Check.sentence("Promise 2: Answers the number of the left one");
        growAnswersTheLeftOne();
        Check.sentence("Promise 2: -1 if node is no leaf that is there");
        refusedWhereDue(GROW);
        Check.sentence("Promise 2: or fewer than two numbers are free");
        growWhenFull();
    }

    private static void promise3() {
        Check.sentence("Promise 3: a leaf that has the value that the joint had");
        shrinkKeepsTheValue();
        Check.sentence("Promise 3: its children are there no longer");
        shrinkTakesTheChildrenAway();
        Check.sentence("Promise 3: -1 if node is no joint whose children both are leaves");
        refusedWhereDue(SHRINK);
    }

    private static void promise4() {
        Check.sentence("Promise 4: The leaf gets the value.");
        setTakesEveryInt();
        Check.sentence("Promise 4: -1 if node is no leaf that is there");
        refusedWhereDue(SET);
    }

    private static void promise5() {
        Check.sentence("Promise 5: The joint gets the sort sort & 3.");
        sortIsMasked(EdgesTest::tenAndThreeOfOtherSort);
        Check.sentence("Promise 5: -1 if node is no joint that is there");
        refusedWhereDue(SET_SORT);
    }

    private static void promise6() {
        Check.sentence("Promise 6: The left and the right child of the joint change places.");
        turnOfEverySort();
        turnTwiceIsNone();
        Check.sentence("Promise 6: -1 if node is no joint that is there");
        refusedWhereDue(TURN);
    }

    private static void promise7() {
        Check.sentence("Promise 7: The value of the node; 0 if refused.");
        refusedWhereDue(VALUE);
    }

    private static void promise8() {
        Check.sentence("Promise 8: By how much the value of the root would be greater (wrapping)"
                + " if the value of the leaf were greater by 1");
        slopeIsWhatOneMoreAdds();
        slopeWraps();
        Check.sentence("Promise 8: 0 if node is no leaf that is there");
        refusedWhereDue(SLOPE);
    }

    private static void promises9And10() {
        Check.sentence("Promise 9: The number of the left child; -1 if node is no joint that is there.");
        refusedWhereDue(LEFT);
        Check.sentence("Promise 10: The number of the right child; -1 if node is no joint that is there.");
        refusedWhereDue(RIGHT);
    }

    private static void promise11() {
        Check.sentence("Promise 11: The number of joints that are there.");
        jointsFromNoneToFull();
        jointsAfterRefusals();
    }

    // What it is

    private static TreeContract after511Calls() {
        TreeContract tree = Trees.fourLeaves();
        for (int call = 4; call <= CALLS_ALLOWED - 1; call += 4) {
            Check.due("call " + call + ": grow(3, 0, 1, 1)", tree.grow(3, 0, 1, 1), 7);
            Check.due("call " + (call + 1) + ": turn(3)", tree.turn(3), 0);
            Check.due("call " + (call + 2) + ": shrink(3)", tree.shrink(3), 0);
            Check.due("call " + (call + 3) + ": set(3, 5)", tree.set(3, 5), 0);
        }
        return tree;
    }

    private static void last512thCall() {
        Check.due("call 512: grow(6, 0, 1, 1)", after511Calls().grow(6, 0, 1, 1), 7);
        Check.due("call 512: shrink(2)", after511Calls().shrink(2), 0);
        Check.due("call 512: set(6, 1)", after511Calls().set(6, 1), 0);
        Check.due("call 512: setSort(0, 1)", after511Calls().setSort(0, 1), 0);
        Check.due("call 512: turn(0)", after511Calls().turn(0), 0);
        Check.due("call 512: value(0)", after511Calls().value(0), 37);
        Check.due("call 512: slope(3)", after511Calls().slope(3), 6);
        Check.due("call 512: left(2)", after511Calls().left(2), 5);
        Check.due("call 512: right(2)", after511Calls().right(2), 6);
        Check.due("call 512: joints()", after511Calls().joints(), 3);
        Check.due("call 512, refused: shrink(0)", after511Calls().shrink(0), -1);
    }

    // Free answers, but LANGUAGE.md has no call throw or run on, in any state.
    private static void laterCallsEnd() {
        TreeContract tree = after511Calls();
        int ended = 0;
        for (int round = 0; round < 100; round++) {
            for (Asked asked : ALL) {
                asked.call.on(tree, round - 10);
                ended++;
            }
        }
        Check.due("calls after the 511th that ended", ended, 900);
    }

    // Terms

    private static void numbersFrom0To30() {
        for (Trees.Sample sample : Trees.SAMPLES) {
            TreeContract tree = sample.make();
            for (int node = 0; node <= 30; node++) {
                Check.due(sample.name + ": is " + node + " there", tree.value(node) != 0, sample.isThere(node));
            }
            for (int node : NEVER_NODES) {
                Check.due(sample.name + ": value(" + node + ")", tree.value(node), 0);
            }
        }
        TreeContract broad = Trees.fullAndBroad();
        Check.due("the greatest number: set(30, 50)", broad.set(30, 50), 0);
        Check.due("the greatest number: value(30)", broad.value(30), 50);
        Check.due("the greatest number: right(14)", broad.right(14), 30);
        TreeContract deep = Trees.fullAndDeep();
        deep.shrink(28);
        deep.shrink(26);
        deep.grow(26, 0, 1, 1);
        deep.grow(27, 0, 1, 1);
        Check.due("29 and 30 under 27: left(27)", deep.left(27), 29);
        Check.due("29 and 30 under 27: right(27)", deep.right(27), 30);
    }

    private static void node0IsAlwaysThere() {
        TreeContract tree = new TreeContract();
        rootLeaf("new", tree, 0);
        tree.shrink(0);
        rootLeaf("after a refused shrink", tree, 0);
        tree.set(0, -6);
        rootLeaf("after set", tree, -6);
        Check.due("grow(0, 1, 4, 5)", tree.grow(0, 1, 4, 5), 1);
        Check.due("root as a joint: value(0)", tree.value(0), 20);
        tree.turn(0);
        Check.due("root as a turned joint: left(0)", tree.left(0), 2);
        tree.shrink(0);
        rootLeaf("after shrink", tree, 20);
        Check.due("root after shrink: grow(0, 0, 1, 1)", tree.grow(0, 0, 1, 1), 1);

        rootLeaf("shrunk to the root", Trees.shrunkToRoot(), 37);
        TreeContract deep = Trees.deepOf(0, 1);
        for (int joint = 28; joint >= 0; joint -= 2) {
            Check.due("shrink(" + joint + ") on the way to the root", deep.shrink(joint), 0);
            Check.due("value(0) on the way to the root", deep.value(0), 16);
        }
        rootLeaf("shrunk to the root from full", deep, 16);
    }

    private static void rootLeaf(String when, TreeContract tree, int value) {
        Check.due(when + ": value(0)", tree.value(0), value);
        Check.due(when + ": slope(0)", tree.slope(0), 1);
        Check.due(when + ": left(0)", tree.left(0), -1);
        Check.due(when + ": right(0)", tree.right(0), -1);
        Check.due(when + ": joints()", tree.joints(), 0);
    }

    private static void leafOrJoint() {
        for (Trees.Sample sample : Trees.SAMPLES) {
            for (int node = 0; node <= 30; node++) {
                TreeContract tree = sample.make();
                String at = sample.name + ", node " + node + " ";
                Check.due(at + "has children", tree.left(node) != -1 && tree.right(node) != -1, sample.isJoint(node));
                Check.due(at + "has a left or a right child", tree.left(node) != -1 || tree.right(node) != -1,
                        sample.isJoint(node));
                Check.due(at + "takes a sort", tree.setSort(node, 0) == 0, sample.isJoint(node));
                Check.due(at + "takes a value", tree.set(node, LEAST) == 0, sample.isLeaf(node));
                Check.due(at + "has the value it took", tree.value(node) == LEAST, sample.isLeaf(node));
            }
        }
    }

    private static void childOfExactlyOneJoint() {
        for (Trees.Sample sample : Trees.SAMPLES) {
            TreeContract tree = sample.make();
            Map<Integer, Integer> parents = new HashMap<>();
            for (int node = 0; node <= 30; node++) {
                if (sample.isJoint(node)) {
                    parents.merge(tree.left(node), 1, Integer::sum);
                    parents.merge(tree.right(node), 1, Integer::sum);
                }
            }
            for (int node = 0; node <= 30; node++) {
                Check.due(sample.name + ": joints over " + node, parents.getOrDefault(node, 0),
                        node != 0 && sample.isThere(node) ? 1 : 0);
            }
        }
    }

    private static void node0AloneAtTheStart() {
        TreeContract tree = new TreeContract();
        rootLeaf("at the start", tree, 0);
        tree.grow(0, 0, 0, 0);
        Check.due("1 and 2 were free at the start: left(0)", tree.left(0), 1);
        Check.due("1 and 2 were free at the start: right(0)", tree.right(0), 2);
        TreeContract used = Trees.fourLeaves();
        rootLeaf("at the start of a second object", new TreeContract(), 0);
        Check.due("first object: joints()", used.joints(), 3);
        Check.due("first object: value(0)", used.value(0), 37);
    }

    private static void arithmeticWraps() {
        int[][] wraps = {
            {0, GREATEST, 1, LEAST},
            {0, LEAST, -1, GREATEST},
            {0, LEAST, LEAST, 0},
            {1, LEAST, -1, LEAST},
            {1, 65536, 65536, 0},
            {1, 65536, 32768, LEAST},
            {1, GREATEST, GREATEST, 1},
            {1, 123456789, -987654321, 67153019},
            {2, LEAST, 1, GREATEST},
            {2, GREATEST, -1, LEAST},
            {2, 0, LEAST, LEAST},
            {3, 1, LEAST, GREATEST},
            {3, -1, GREATEST, LEAST},
            {3, LEAST, 0, LEAST}};
        for (int[] wrap : wraps) {
            String name = "sort " + wrap[0] + " of " + wrap[1] + " and " + wrap[2] + ": ";
            Check.due(name + "grown", Trees.pair(wrap[0], wrap[1], wrap[2]).value(0), wrap[3]);
            TreeContract tree = Trees.pair(wrap[0] + 1, 5, 6);
            tree.set(1, wrap[1]);
            tree.set(2, wrap[2]);
            tree.setSort(0, wrap[0]);
            Check.due(name + "set", tree.value(0), wrap[3]);
            tree.shrink(0);
            Check.due(name + "shrunk", tree.value(0), wrap[3]);
        }
        Check.due("-7 to the power of 16", Trees.deepOf(1, -7).value(0), BigInteger.valueOf(-7).pow(16).intValue());
        Check.due("16 times the greatest", Trees.deepOf(0, GREATEST).value(0), -16);
    }

    private static void numbersNotThereAreRefused() {
        for (Asked asked : ALL) {
            for (Trees.Sample sample : Trees.SAMPLES) {
                for (int node : numbersToTry()) {
                    if (!sample.isThere(node)) {
                        refused(asked, sample, node);
                    }
                }
            }
        }
    }

    private static void manyRefusalsChangeNothing() {
        for (Asked asked : ALL) {
            for (Trees.Sample sample : Trees.SAMPLES) {
                TreeContract tree = sample.make();
                int refusals = 0;
                for (int node : numbersToTry()) {
                    if (!asked.rule.allows(sample, node) && refusals < REFUSALS_IN_A_ROW) {
                        Check.due(sample.name + ": " + asked.name + "(" + node + ", ..)", asked.call.on(tree, node),
                                asked.refusal);
                        refusals++;
                    }
                }
                Check.due(sample.name + ": all after many refused calls of " + asked.name, Trees.trace(tree),
                        Trees.trace(sample.make()));
            }
        }
    }

    // Promise 1

    private static void newObject() {
        TreeContract tree = new TreeContract();
        Check.due("value(0)", tree.value(0), 0);
        Check.due("slope(0)", tree.slope(0), 1);
        Check.due("joints()", tree.joints(), 0);
        for (int node = 1; node <= 30; node++) {
            Check.due("grow(" + node + ", 0, 1, 1)", tree.grow(node, 0, 1, 1), -1);
            Check.due("shrink(" + node + ")", tree.shrink(node), -1);
            Check.due("set(" + node + ", 1)", tree.set(node, 1), -1);
            Check.due("setSort(" + node + ", 1)", tree.setSort(node, 1), -1);
            Check.due("turn(" + node + ")", tree.turn(node), -1);
            Check.due("value(" + node + ")", tree.value(node), 0);
            Check.due("slope(" + node + ")", tree.slope(node), 0);
            Check.due("left(" + node + ")", tree.left(node), -1);
            Check.due("right(" + node + ")", tree.right(node), -1);
        }
        Check.due("shrink(0)", tree.shrink(0), -1);
        Check.due("setSort(0, 1)", tree.setSort(0, 1), -1);
        Check.due("turn(0)", tree.turn(0), -1);
        Check.due("value(0) after all of them", tree.value(0), 0);
        Check.due("set(0, 5)", tree.set(0, 5), 0);
        Check.due("value(0) after set", tree.value(0), 5);
    }

    // Promises 2 and 5

    private static TreeContract tenAndThreeOfOtherSort(int sort) {
        TreeContract tree = Trees.pair(sort + 1, 10, 3);
        Check.due("setSort(0, " + sort + ")", tree.setSort(0, sort), 0);
        return tree;
    }

    private static void sortIsMasked(SortCall call) {
        int[] multiplesOfFour = {0, 4, 8, -4, -8, 256, 65536, 1 << 30, LEAST, GREATEST - 3};
        int[] values = {13, 30, 7, -7};
        int[] leftSlopes = {1, 3, 1, -1};
        for (int base : multiplesOfFour) {
            for (int low = 0; low < 4; low++) {
                TreeContract tree = call.tenAndThree(base + low);
                Check.due("sort " + (base + low) + " of 10 and 3: value(0)", tree.value(0), values[low]);
                Check.due("sort " + (base + low) + " of 10 and 3: slope(1)", tree.slope(1), leftSlopes[low]);
            }
        }
    }

    // Numbers come and go in the pairs 1 and 2, 3 and 4 up to 29 and 30, so
    // there never is a gap between the least free number and the next one.
    private static void growTakesTheLeastNumbers() {
        TreeContract tree = new TreeContract();
        for (int joint = 0; joint < 15; joint++) {
            grownTo("broad", tree, joint, 2 * joint + 1);
        }
        TreeContract between = Trees.fullAndBroad();
        between.shrink(9);
        between.shrink(12);
        between.shrink(7);
        grownTo("freed 19, 25 and 15", between, 30, 15);
        grownTo("freed 19 and 25", between, 12, 19);
        grownTo("freed 25", between, 7, 25);

        TreeContract turned = Trees.fourLeaves();
        turned.turn(1);
        turned.shrink(1);
        grownTo("freed as 4 and 3", turned, 1, 3);

        TreeContract refused = Trees.fourLeaves();
        refused.grow(0, 0, 1, 1);
        refused.grow(7, 0, 1, 1);
        refused.shrink(0);
        grownTo("after refused calls", refused, 6, 7);

        TreeContract all = Trees.shrunkToRoot();
        grownTo("all given back", all, 0, 1);
        grownTo("all given back but two", all, 2, 3);
    }

    private static void grownTo(String when, TreeContract tree, int node, int left) {
        Check.due(when + ": grow(" + node + ", 0, 71, -72)", tree.grow(node, 0, 71, -72), left);
        Check.due(when + ": left(" + node + ")", tree.left(node), left);
        Check.due(when + ": right(" + node + ")", tree.right(node), left + 1);
        Check.due(when + ": value(" + left + ")", tree.value(left), 71);
        Check.due(when + ": value(" + (left + 1) + ")", tree.value(left + 1), -72);
        Check.due(when + ": value(" + node + ")", tree.value(node), -1);
    }

    private static void growAnswersTheLeftOne() {
        for (Trees.Sample sample : Trees.SAMPLES) {
            for (int node = 0; node <= 30; node++) {
                if (GROW.rule.allows(sample, node)) {
                    TreeContract tree = sample.make();
                    int answer = tree.grow(node, 0, LEAST, GREATEST);
                    Check.due(sample.name + ": left(" + node + ") after grow", tree.left(node), answer);
                    Check.due(sample.name + ": value(" + answer + ") after grow", tree.value(answer), LEAST);
                    Check.due(sample.name + ": value of the right one", tree.value(tree.right(node)), GREATEST);
                }
            }
        }
    }

    private static void growWhenFull() {
        for (Trees.Sample sample : Trees.SAMPLES) {
            for (int node = 0; node <= 30 && sample.isFull(); node++) {
                refused(GROW, sample, node);
            }
        }
        TreeContract tree = Trees.fullButForTwo();
        Check.due("two are free: grow(1, 0, 8, 9)", tree.grow(1, 0, 8, 9), 29);
        Check.due("two are free: right(1)", tree.right(1), 30);
        Check.due("none is free: grow(28, 0, 8, 9)", tree.grow(28, 0, 8, 9), -1);
        Check.due("none is free: grow(30, 0, 8, 9)", tree.grow(30, 0, 8, 9), -1);
        Check.due("two are free again: shrink(1)", tree.shrink(1), 0);
        Check.due("two are free again: grow(28, 0, 8, 9)", tree.grow(28, 0, 8, 9), 29);
        Check.due("none is free again: grow(1, 0, 8, 9)", tree.grow(1, 0, 8, 9), -1);
    }

    // Promise 3

    private static void shrinkKeepsTheValue() {
        for (Trees.Sample sample : Trees.SAMPLES) {
            for (int node = 0; node <= 30; node++) {
                if (sample.isOverTwoLeaves(node)) {
                    TreeContract tree = sample.make();
                    String at = sample.name + ", shrink(" + node + "): ";
                    int value = tree.value(node);
                    int rootValue = tree.value(0);
                    Check.due(at + "answer", tree.shrink(node), 0);
                    Check.due(at + "value", tree.value(node), value);
                    Check.due(at + "value(0)", tree.value(0), rootValue);
                    Check.due(at + "left", tree.left(node), -1);
                    Check.due(at + "right", tree.right(node), -1);
                    Check.due(at + "set", tree.set(node, value + 1), 0);
                    Check.due(at + "value after set", tree.value(node), value + 1);
                }
            }
        }
    }

    private static void shrinkTakesTheChildrenAway() {
        for (Trees.Sample sample : Trees.SAMPLES) {
            for (int node = 0; node <= 30; node++) {
                if (sample.isOverTwoLeaves(node)) {
                    TreeContract tree = sample.make();
                    int left = tree.left(node);
                    int right = tree.right(node);
                    tree.shrink(node);
                    gone(sample.name + ", after shrink(" + node + "): ", tree, left);
                    gone(sample.name + ", after shrink(" + node + "): ", tree, right);
                }
            }
        }
    }

    private static void gone(String when, TreeContract tree, int node) {
        for (Asked asked : ALL) {
            Check.due(when + asked.name + "(" + node + ", ..)", asked.call.on(tree, node), asked.refusal);
        }
    }

    // Promise 4

    private static void setTakesEveryInt() {
        int[] values = {0, 1, -1, 127, 128, 32767, 32768, 65536, GREATEST, LEAST};
        for (int value : values) {
            TreeContract root = new TreeContract();
            Check.due("set(0, " + value + ")", root.set(0, value), 0);
            Check.due("set(0, " + value + "): value(0)", root.value(0), value);
            TreeContract broad = Trees.fullAndBroad();
            Check.due("set(30, " + value + ")", broad.set(30, value), 0);
            Check.due("set(30, " + value + "): value(30)", broad.value(30), value);
            Check.due("set(30, " + value + "): value(29)", broad.value(29), 2);
        }
        TreeContract deep = Trees.deepOf(0, 1);
        Check.due("at the greatest depth: set(30, 1000)", deep.set(30, 1000), 0);
        Check.due("at the greatest depth: value(0)", deep.value(0), 15 + 1000);
    }

    // Promise 6

    private static void turnOfEverySort() {
        int[] values = {LEAST + 9, LEAST, LEAST + 9, GREATEST - 8};
        for (int sort = 0; sort < 4; sort++) {
            TreeContract tree = Trees.pair(sort, LEAST, 9);
            Check.due("sort " + sort + " of the least and 9: turn(0)", tree.turn(0), 0);
            Check.due("sort " + sort + " of the least and 9, turned: value(0)", tree.value(0), values[sort]);
            Check.due("sort " + sort + " of the least and 9, turned: value(1)", tree.value(1), LEAST);
        }
    }

    private static void turnTwiceIsNone() {
        for (Trees.Sample sample : Trees.SAMPLES) {
            for (int node = 0; node <= 30; node++) {
                if (sample.isJoint(node)) {
                    TreeContract tree = sample.make();
                    int left = tree.left(node);
                    int right = tree.right(node);
                    String at = sample.name + ", turn(" + node + "): ";
                    Check.due(at + "answer", tree.turn(node), 0);
                    Check.due(at + "left", tree.left(node), right);
                    Check.due(at + "right", tree.right(node), left);
                    Check.due(at + "answer of the second", tree.turn(node), 0);
                    Check.due(at + "all after the second", Trees.trace(tree), Trees.trace(sample.make()));
                }
            }
        }
    }

    // Promise 8

    private static void slopeIsWhatOneMoreAdds() {
        int[] values = {0, 1, -1, LEAST, GREATEST, 65536, 12345};
        for (Trees.Sample sample : Trees.SAMPLES) {
            for (int node = 0; node <= 30; node++) {
                for (int value : values) {
                    if (sample.isLeaf(node)) {
                        TreeContract tree = sample.make();
                        tree.set(node, value);
                        int slope = tree.slope(node);
                        int before = tree.value(0);
                        Check.due(sample.name + ": value(" + node + ") after slope", tree.value(node), value);
                        tree.set(node, value + 1);
                        Check.due(sample.name + ": slope(" + node + ") at " + value, slope, tree.value(0) - before);
                    }
                }
            }
        }
    }

    private static void slopeWraps() {
        Check.due("-7 to the power of 15: slope(30)", Trees.deepOf(1, -7).slope(30),
                BigInteger.valueOf(-7).pow(15).intValue());
        Check.due("-7 to the power of 15: slope(1)", Trees.deepOf(1, -7).slope(1),
                BigInteger.valueOf(-7).pow(15).intValue());
        Check.due("65536 to the power of 15: slope(30)", Trees.deepOf(1, 65536).slope(30), 0);
        TreeContract tree = Trees.pair(2, 0, 0);
        tree.grow(2, 1, LEAST, 0);
        Check.due("0 - least * y: slope(4)", tree.slope(4), LEAST);
        Check.due("one more than the greatest: slope(0)", greatestRoot().slope(0), 1);
    }

    private static TreeContract greatestRoot() {
        TreeContract tree = new TreeContract();
        tree.set(0, GREATEST);
        return tree;
    }

    // Promise 11

    private static void jointsFromNoneToFull() {
        TreeContract tree = new TreeContract();
        for (int count = 0; count < 15; count++) {
            Check.due("joints() after " + count + " grown", tree.joints(), count);
            tree.grow(2 * count, 0, 1, 1);
        }
        Check.due("joints() when full", tree.joints(), 15);
        for (int count = 14; count >= 0; count--) {
            tree.shrink(2 * count);
            Check.due("joints() shrunk to " + count, tree.joints(), count);
        }
    }

    private static void jointsAfterRefusals() {
        TreeContract tree = Trees.fullAndDeep();
        tree.grow(30, 0, 1, 1);
        Check.due("joints() after a grow refused when full", tree.joints(), 15);
        tree.shrink(0);
        Check.due("joints() after a refused shrink", tree.joints(), 15);
        tree.shrink(30);
        Check.due("joints() after a refused shrink of a leaf", tree.joints(), 15);
        TreeContract root = new TreeContract();
        root.shrink(0);
        Check.due("joints() after a refused shrink of the root", root.joints(), 0);
    }

    // Refused calls

    private static List<Integer> numbersToTry() {
        List<Integer> numbers = new ArrayList<>();
        for (int node = 0; node <= 30; node++) {
            numbers.add(node);
        }
        for (int node : NEVER_NODES) {
            numbers.add(node);
        }
        return numbers;
    }

    /** Every number on every sample: refused where that is due and then without a change, else not refused. */
    private static void refusedWhereDue(Asked asked) {
        for (Trees.Sample sample : Trees.SAMPLES) {
            for (int node : numbersToTry()) {
                if (asked.rule.allows(sample, node)) {
                    Check.due(sample.name + ": is " + asked.name + "(" + node + ", ..) refused",
                            asked.call.on(sample.make(), node) == asked.refusal, false);
                } else {
                    refused(asked, sample, node);
                }
            }
        }
    }

    private static void refused(Asked asked, Trees.Sample sample, int node) {
        TreeContract tree = sample.make();
        String name = sample.name + ": " + asked.name + "(" + node + ", ..)";
        Check.due(name, asked.call.on(tree, node), asked.refusal);
        Check.due("all after the refused " + name, Trees.trace(tree), Trees.trace(sample.make()));
    }
}
