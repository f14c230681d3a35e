public final class TreeContract {
    private static final int NODE_LIMIT = 31;
    private static final int ROOT = 0;
    private static final int NO_NODE = -1;

    private static final int ABSENT = 0;
    private static final int LEAF = 1;
    private static final int JOINT = 2;

    private static final int SORT_MASK = 3;
    private static final int PRODUCT = 1;
    private static final int LEFT_MINUS_RIGHT = 2;
    private static final int RIGHT_MINUS_LEFT = 3;

    private static final int DONE = 0;
    private static final int REFUSED = -1;

    private final int[] kinds = new int[NODE_LIMIT];
    private final int[] sorts = new int[NODE_LIMIT];
    private final int[] lefts = new int[NODE_LIMIT];
    private final int[] rights = new int[NODE_LIMIT];
    private final int[] parents = new int[NODE_LIMIT];

    // Joints keep their value here too: a child may have a smaller number than
    // its joint, so no order of the numbers would do to work the values out anew.
    private final int[] values = new int[NODE_LIMIT];

    public TreeContract() {
        makeLeaf(ROOT, NO_NODE, 0);
    }

    public int grow(int node, int sort, int x, int y) {
        if (!isLeaf(node)) {
            return REFUSED;
        }
        int left = leastFreeFrom(ROOT);
        int right = leastFreeFrom(left + 1);
        if (right >= NODE_LIMIT) {
            return REFUSED;
        }
        makeLeaf(left, node, x);
        makeLeaf(right, node, y);
        kinds[node] = JOINT;
        sorts[node] = sort & SORT_MASK;
        lefts[node] = left;
        rights[node] = right;
        refreshUpFrom(node);
        return left;
    }

    public int shrink(int node) {
        if (!isJoint(node)) {
            return REFUSED;
        }
        int left = lefts[node];
        int right = rights[node];
        if (!isLeaf(left) || !isLeaf(right)) {
            return REFUSED;
        }
        kinds[left] = ABSENT;
        kinds[right] = ABSENT;
        kinds[node] = LEAF;
        return DONE;
    }

    public int set(int node, int value) {
        if (!isLeaf(node)) {
            return REFUSED;
        }
        values[node] = value;
        refreshUpFrom(parents[node]);
        return DONE;
    }

    public int setSort(int node, int sort) {
        if (!isJoint(node)) {
            return REFUSED;
        }
        sorts[node] = sort & SORT_MASK;
        refreshUpFrom(node);
        return DONE;
    }

    public int turn(int node) {
        if (!isJoint(node)) {
            return REFUSED;
        }
        int formerLeft = lefts[node];
        lefts[node] = rights[node];
        rights[node] = formerLeft;
        refreshUpFrom(node);
        return DONE;
    }

    public int value(int node) {
        return isThere(node) ? values[node] : 0;
    }

    // A leaf stands in the tree once, so the root's value is linear in it and
    // the slope is the product of the slopes of the joints above it.
    public int slope(int node) {
        if (!isLeaf(node)) {
            return 0;
        }
        int product = 1;
        int child = node;
        for (int step = 0; step < NODE_LIMIT && child != ROOT; step++) {
            int joint = parents[child];
            product *= slopeInJoint(joint, child);
            child = joint;
        }
        return product;
    }

    public int left(int node) {
        return isJoint(node) ? lefts[node] : NO_NODE;
    }

    public int right(int node) {
        return isJoint(node) ? rights[node] : NO_NODE;
    }

    public int joints() {
        int count = 0;
        for (int node = 0; node < NODE_LIMIT; node++) {
            if (kinds[node] == JOINT) {
                count++;
            }
        }
        return count;
    }

    private boolean isNumber(int node) {
        return node >= 0 && node < NODE_LIMIT;
    }

    private boolean isThere(int node) {
        return isNumber(node) && kinds[node] != ABSENT;
    }

    private boolean isLeaf(int node) {
        return isNumber(node) && kinds[node] == LEAF;
    }

    private boolean isJoint(int node) {
        return isNumber(node) && kinds[node] == JOINT;
    }

    // NODE_LIMIT stands for "none", so that a search that starts behind it
    // finds none as well.
    private int leastFreeFrom(int start) {
        for (int node = start; node < NODE_LIMIT; node++) {
            if (kinds[node] == ABSENT) {
                return node;
            }
        }
        return NODE_LIMIT;
    }

    private void makeLeaf(int node, int parent, int value) {
        kinds[node] = LEAF;
        parents[node] = parent;
        values[node] = value;
    }

    private void refreshUpFrom(int lowestJoint) {
        int joint = lowestJoint;
        for (int step = 0; step < NODE_LIMIT && joint != NO_NODE; step++) {
            values[joint] = jointValue(joint);
            joint = parents[joint];
        }
    }

    private int jointValue(int joint) {
        int x = values[lefts[joint]];
        int y = values[rights[joint]];
        switch (sorts[joint]) {
            case PRODUCT:
                return x * y;
            case LEFT_MINUS_RIGHT:
                return x - y;
            case RIGHT_MINUS_LEFT:
                return y - x;
            default:
                return x + y;
        }
    }

    private int slopeInJoint(int joint, int child) {
        boolean isLeft = lefts[joint] == child;
        int sibling = isLeft ? rights[joint] : lefts[joint];
        switch (sorts[joint]) {
            case PRODUCT:
                return values[sibling];
            case LEFT_MINUS_RIGHT:
                return isLeft ? 1 : -1;
            case RIGHT_MINUS_LEFT:
                return isLeft ? -1 : 1;
            default:
                return 1;
        }
    }
}
