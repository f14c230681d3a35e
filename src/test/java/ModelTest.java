import java.util.TreeMap;

/** Long runs of calls, each answer held against a model that follows the document word for word. */
public final class ModelTest {
    private static final int RUNS = 3000;
    private static final int CALLS_ALLOWED = 512;
    private static final int CALLS_OF_FULL_LOOK = 31 * 4 + 1;
    private static final int[] EXTREMES = {Integer.MIN_VALUE, Integer.MAX_VALUE, -1, 0, 1, 65536, 31, 32};

    /** A node of the model: a leaf if it has no children. */
    private static final class Node {
        int value;
        int sort;
        int left = -1;
        int right = -1;

        Node(int value) {
            this.value = value;
        }

        boolean isLeaf() {
            return left == -1;
        }
    }

    private static final class Model {
        final TreeMap<Integer, Node> nodes = new TreeMap<>();

        Model() {
            nodes.put(0, new Node(0));
        }

        boolean isLeaf(int node) {
            return nodes.containsKey(node) && nodes.get(node).isLeaf();
        }

        boolean isJoint(int node) {
            return nodes.containsKey(node) && !nodes.get(node).isLeaf();
        }

        int grow(int node, int sort, int x, int y) {
            if (!isLeaf(node) || nodes.size() > 29) {
                return -1;
            }
            Node joint = nodes.get(node);
            joint.sort = sort & 3;
            joint.left = addLeaf(x);
            joint.right = addLeaf(y);
            return joint.left;
        }

        int addLeaf(int value) {
            int number = 0;
            while (nodes.containsKey(number)) {
                number++;
            }
            nodes.put(number, new Node(value));
            return number;
        }

        int shrink(int node) {
            if (!isJoint(node) || !isLeaf(nodes.get(node).left) || !isLeaf(nodes.get(node).right)) {
                return -1;
            }
            Node leaf = new Node(value(node));
            nodes.remove(nodes.get(node).left);
            nodes.remove(nodes.get(node).right);
            nodes.put(node, leaf);
            return 0;
        }

        int set(int node, int value) {
            if (!isLeaf(node)) {
                return -1;
            }
            nodes.get(node).value = value;
            return 0;
        }

        int setSort(int node, int sort) {
            if (!isJoint(node)) {
                return -1;
            }
            nodes.get(node).sort = sort & 3;
            return 0;
        }

        int turn(int node) {
            if (!isJoint(node)) {
                return -1;
            }
            Node joint = nodes.get(node);
            int left = joint.left;
            joint.left = joint.right;
            joint.right = left;
            return 0;
        }

        int value(int node) {
            if (!nodes.containsKey(node)) {
                return 0;
            }
            Node at = nodes.get(node);
            if (at.isLeaf()) {
                return at.value;
            }
            int x = value(at.left);
            int y = value(at.right);
            return at.sort == 0 ? x + y : at.sort == 1 ? x * y : at.sort == 2 ? x - y : y - x;
        }

        int slope(int node) {
            if (!isLeaf(node)) {
                return 0;
            }
            int before = value(0);
            nodes.get(node).value++;
            int after = value(0);
            nodes.get(node).value--;
            return after - before;
        }

        int left(int node) {
            return isJoint(node) ? nodes.get(node).left : -1;
        }

        int right(int node) {
            return isJoint(node) ? nodes.get(node).right : -1;
        }

        int joints() {
            int count = 0;
            for (Node node : nodes.values()) {
                count += node.isLeaf() ? 0 : 1;
            }
            return count;
        }
    }

    private static long state = 20261115L;

    // The same numbers each time, so that a fault found once is found again.
    private static int below(int bound) {
        state = state * 6364136223846793005L + 1442695040888963407L;
        return (int) ((state >>> 33) % bound);
    }

    private static int someNumber() {
        switch (below(4)) {
            case 0:
                return EXTREMES[below(EXTREMES.length)];
            case 1:
                return (below(65536) << 16) ^ below(65536);
            default:
                return below(21) - 10;
        }
    }

    private static int someNode() {
        return below(40) == 0 ? someNumber() : below(33) - 1;
    }

    private static void oneCall(String where, TreeContract tree, Model model, int growWeight) {
        int node = someNode();
        int a = someNumber();
        int x = someNumber();
        int y = someNumber();
        String at = where + "(" + node + ")";
        switch (below(9 + growWeight)) {
            case 0:
                Check.due(at + " shrink", tree.shrink(node), model.shrink(node));
                break;
            case 1:
                Check.due(at + " set " + a, tree.set(node, a), model.set(node, a));
                break;
            case 2:
                Check.due(at + " setSort " + a, tree.setSort(node, a), model.setSort(node, a));
                break;
            case 3:
                Check.due(at + " turn", tree.turn(node), model.turn(node));
                break;
            case 4:
                Check.due(at + " value", tree.value(node), model.value(node));
                break;
            case 5:
                Check.due(at + " slope", tree.slope(node), model.slope(node));
                break;
            case 6:
                Check.due(at + " left", tree.left(node), model.left(node));
                break;
            case 7:
                Check.due(at + " right", tree.right(node), model.right(node));
                break;
            case 8:
                Check.due(where + " joints", tree.joints(), model.joints());
                break;
            default:
                Check.due(at + " grow " + a + " " + x + " " + y, tree.grow(node, a, x, y), model.grow(node, a, x, y));
        }
    }

    private static void fullLook(String where, TreeContract tree, Model model) {
        Check.due(where + " joints", tree.joints(), model.joints());
        for (int node = 0; node <= 30; node++) {
            String at = where + "(" + node + ")";
            Check.due(at + " value", tree.value(node), model.value(node));
            Check.due(at + " slope", tree.slope(node), model.slope(node));
            Check.due(at + " left", tree.left(node), model.left(node));
            Check.due(at + " right", tree.right(node), model.right(node));
        }
    }

    public static void main(String[] args) {
        for (int run = 0; run < RUNS; run++) {
            TreeContract tree = new TreeContract();
            Model model = new Model();
            int growWeight = 1 + run % 6;
            int calls = 1 + below(CALLS_ALLOWED - CALLS_OF_FULL_LOOK);
            for (int call = 1; call <= calls; call++) {
                oneCall("run " + run + ", call " + call + " ", tree, model, growWeight);
            }
            fullLook("run " + run + ", at its end ", tree, model);
        }
        Check.finish();
    }
}
