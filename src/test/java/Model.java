import java.util.ArrayList;
import java.util.Arrays;
import java.util.HashMap;
import java.util.LinkedHashMap;
import java.util.List;
import java.util.Map;
import java.util.TreeSet;

/** The document's words written down once more, as plainly as can be: trees, maps and recursion. */
final class Model {
    static final class Node {
        final int kind;
        final int which;
        final Node[] places;

        Node(int kind, int which, Node... places) {
            this.kind = kind;
            this.which = which;
            this.places = places;
        }
    }

    record Statement(List<Node> premises, Node conclusion) {
    }

    record Hit(int statement, int first, int second, int[] bound) {
    }

    // Nodes that are the same are one object, kept by what they are made of.
    private final Map<List<Object>, Node> nodes = new HashMap<>();
    private final List<Node> terms = new ArrayList<>();
    private final Map<Integer, Integer> arities = new HashMap<>();
    private final List<Statement> statements = new ArrayList<>();
    private List<Hit> hits = new ArrayList<>();
    private char hitKind = ' ';
    private Node hitGoal;
    private int tries = 0;
    private int taken = 0;
    private int first = -1;

    private Node node(int kind, int which, Node... places) {
        List<Object> key = new ArrayList<>(List.of(kind, which));
        key.addAll(Arrays.asList(places));
        return nodes.computeIfAbsent(key, k -> new Node(kind, which, places));
    }

    private int number(Node node) {
        for (int i = 0; i < terms.size(); i++) {
            if (terms.get(i) == node) {
                return i;
            }
        }
        return -1;
    }

    private int numberOrMake(Node node) {
        int known = number(node);
        if (known >= 0) {
            return known;
        }
        if (terms.size() == 100) {
            throw new IllegalStateException();
        }
        terms.add(node);
        return terms.size() - 1;
    }

    private Node termAt(int t) {
        if (t < 0 || t >= terms.size()) {
            throw new IndexOutOfBoundsException();
        }
        return terms.get(t);
    }

    private List<Node> upToNone(int... numbers) {
        List<Node> found = new ArrayList<>();
        for (int t : numbers) {
            if (t == -1) {
                break;
            }
            found.add(termAt(t));
        }
        return found;
    }

    private static void standing(Node node, List<Node> into) {
        into.add(node);
        for (Node place : node.places) {
            standing(place, into);
        }
    }

    private static List<Node> standing(Node node) {
        List<Node> all = new ArrayList<>();
        standing(node, all);
        return all;
    }

    private static void refuseHoles(Node node) {
        if (standing(node).stream().anyMatch(n -> n.kind == 2)) {
            throw new IllegalArgumentException();
        }
    }

    /** Whether a pattern becomes a term; what its leaves of a kind give way to is put into the map. */
    private static boolean becomes(Node pattern, Node term, int kind, Map<Integer, Node> bound) {
        if (pattern.kind == kind) {
            Node before = bound.putIfAbsent(pattern.which, term);
            return before == null || before == term;
        }
        if (pattern.kind != term.kind || pattern.which != term.which) {
            return false;
        }
        for (int k = 0; k < pattern.places.length; k++) {
            if (!becomes(pattern.places[k], term.places[k], kind, bound)) {
                return false;
            }
        }
        return true;
    }

    private Node put(Node node, Map<Integer, Node> bound) {
        if (node.kind == 1) {
            return bound.getOrDefault(node.which, node);
        }
        Node[] places = new Node[node.places.length];
        for (int k = 0; k < places.length; k++) {
            places[k] = put(node.places[k], bound);
        }
        return node(node.kind, node.which, places);
    }

    private int putAndMake(Node node, Map<Integer, Node> bound) {
        if (node.kind == 1) {
            return number(bound.getOrDefault(node.which, node));
        }
        Node[] places = new Node[node.places.length];
        for (int k = 0; k < places.length; k++) {
            places[k] = terms.get(putAndMake(node.places[k], bound));
        }
        return numberOrMake(node(node.kind, node.which, places));
    }

    private int[] numbers(int many, Map<Integer, Node> bound) {
        int[] all = new int[many];
        for (int i = 0; i < many; i++) {
            all[i] = bound.containsKey(i) ? number(bound.get(i)) : -1;
        }
        return all;
    }

    private static TreeSet<Integer> leavesOrNames(List<Node> nodes, int kind) {
        TreeSet<Integer> all = new TreeSet<>();
        for (Node node : nodes) {
            standing(node).stream().filter(n -> n.kind == kind).forEach(n -> all.add(n.which));
        }
        return all;
    }

    private static TreeSet<Integer> open(Statement s) {
        TreeSet<Integer> all = leavesOrNames(s.premises, 1);
        all.removeAll(leavesOrNames(List.of(s.conclusion), 1));
        return all;
    }

    private List<Integer> byPremises() {
        List<Integer> order = new ArrayList<>();
        for (int s = 0; s < statements.size(); s++) {
            order.add(s);
        }
        order.sort((p, q) -> statements.get(p).premises.size() - statements.get(q).premises.size());
        return order;
    }

    int name(int name, int a, int b, int c) {
        if (name < 0 || name > 29) {
            throw new IndexOutOfBoundsException();
        }
        List<Node> places = upToNone(a, b, c);
        if (arities.getOrDefault(name, places.size()) != places.size()) {
            throw new IllegalArgumentException();
        }
        int made = numberOrMake(node(0, name, places.toArray(new Node[0])));
        arities.put(name, places.size());
        return made;
    }

    int leaf(int which, boolean hole) {
        if (which < 0 || which > (hole ? 3 : 7)) {
            throw new IndexOutOfBoundsException();
        }
        return numberOrMake(node(hole ? 2 : 1, which));
    }

    int term(int t, int what) {
        if (t < 0 || t >= terms.size()) {
            return -1;
        }
        Node node = terms.get(t);
        if (what >= 2 && what <= 4) {
            return what - 2 < node.places.length ? number(node.places[what - 2]) : -1;
        }
        return what == 0 ? node.kind : what == 1 ? node.which : what == 5 ? standing(node).size() : -1;
    }

    int state(int a, int b, int c, int d, int conclusion) {
        Statement made = new Statement(upToNone(a, b, c, d), termAt(conclusion));
        made.premises.forEach(Model::refuseHoles);
        refuseHoles(made.conclusion);
        if (statements.size() == 30) {
            throw new IllegalStateException();
        }
        statements.add(made);
        hits = new ArrayList<>();
        return statements.size() - 1;
    }

    boolean forget() {
        hits = new ArrayList<>();
        if (statements.isEmpty()) {
            return false;
        }
        statements.remove(statements.size() - 1);
        return true;
    }

    int find(int shape) {
        Node pattern = termAt(shape);
        hits = new ArrayList<>();
        hitKind = 'f';
        for (int s = 0; s < statements.size(); s++) {
            List<Node> roots = new ArrayList<>(List.of(statements.get(s).conclusion));
            roots.addAll(statements.get(s).premises);
            findIn(s, roots, pattern);
        }
        return hits.size();
    }

    private void findIn(int s, List<Node> roots, Node pattern) {
        for (int r = 0; r < roots.size(); r++) {
            for (Node inner : standing(roots.get(r))) {
                Map<Integer, Node> bound = new LinkedHashMap<>();
                if (becomes(pattern, inner, 2, bound)) {
                    hits.add(new Hit(s, r - 1, number(inner), numbers(4, bound)));
                    return;
                }
            }
        }
    }

    private Node goalAt(int goal) {
        Node node = termAt(goal);
        refuseHoles(node);
        return node;
    }

    int fit(int goal) {
        hitGoal = goalAt(goal);
        hits = new ArrayList<>();
        hitKind = 'g';
        for (int s : byPremises()) {
            Statement statement = statements.get(s);
            Map<Integer, Node> bound = new HashMap<>();
            if (becomes(statement.conclusion, hitGoal, 1, bound)) {
                hits.add(new Hit(s, open(statement).size(), statement.premises.size(), numbers(8, bound)));
            }
        }
        return hits.size();
    }

    int rank(int goal) {
        TreeSet<Integer> wanted = leavesOrNames(List.of(goalAt(goal)), 0);
        hits = new ArrayList<>();
        hitKind = 'r';
        for (int s = 0; s < statements.size(); s++) {
            List<Node> parts = new ArrayList<>(statements.get(s).premises);
            parts.add(statements.get(s).conclusion);
            TreeSet<Integer> both = leavesOrNames(parts, 0);
            TreeSet<Integer> either = new TreeSet<>(both);
            both.retainAll(wanted);
            either.addAll(wanted);
            hits.add(new Hit(s, both.size(), Math.max(1, either.size()), new int[0]));
        }
        hits.sort((p, q) -> q.first * p.second - p.first * q.second);
        return hits.size();
    }

    int hit(int i, int what) {
        if (i < 0 || i >= hits.size()) {
            return -1;
        }
        Hit hit = hits.get(i);
        if (what >= 4 && what < 4 + hit.bound.length) {
            return hit.bound[what - 4];
        }
        return what == 0 ? hit.statement : what == 1 ? hit.first : what == 2 ? hit.second : -1;
    }

    int goal(int i, int k) {
        if (hitKind != 'g' || i < 0 || i >= hits.size() || k < 0 || k >= hits.get(i).second) {
            throw new IndexOutOfBoundsException();
        }
        Statement statement = statements.get(hits.get(i).statement);
        Map<Integer, Node> bound = new HashMap<>();
        becomes(statement.conclusion, hitGoal, 1, bound);
        return putAndMake(statement.premises.get(k), bound);
    }

    int twin(int statement) {
        if (statement < 0 || statement >= statements.size()) {
            throw new IndexOutOfBoundsException();
        }
        String written = written(statements.get(statement));
        for (int s = 0; s < statement; s++) {
            if (written(statements.get(s)).equals(written)) {
                return s;
            }
        }
        return -1;
    }

    /** The statement as a text in which each variable is written as the how-manieth it is. */
    private static String written(Statement statement) {
        List<Node> parts = new ArrayList<>(statement.premises);
        parts.add(statement.conclusion);
        List<Integer> met = new ArrayList<>();
        StringBuilder text = new StringBuilder();
        for (Node part : parts) {
            for (Node inner : standing(part)) {
                if (inner.kind == 1 && !met.contains(inner.which)) {
                    met.add(inner.which);
                }
                text.append(inner.kind == 1 ? "v" + met.indexOf(inner.which) : "n" + inner.which);
            }
            text.append(';');
        }
        return text.toString();
    }

    boolean follows(int goal, int steps) {
        Node node = goalAt(goal);
        tries = 0;
        taken = 0;
        first = -1;
        List<Integer> proof = proof(node, Math.min(steps, 100));
        if (proof != null) {
            taken = proof.size();
            first = proof.get(0);
        }
        return proof != null;
    }

    /** The statements that are taken, the goal's own first; null if it does not follow. */
    private List<Integer> proof(Node goal, int steps) {
        if (steps <= 0) {
            return null;
        }
        for (int s : byPremises()) {
            if (tries == 1000) {
                throw new UnsupportedOperationException();
            }
            tries++;
            Statement statement = statements.get(s);
            Map<Integer, Node> bound = new HashMap<>();
            if (becomes(statement.conclusion, goal, 1, bound) && open(statement).isEmpty()) {
                List<Integer> all = new ArrayList<>(Arrays.asList(s));
                boolean allFollow = true;
                for (Node premise : statement.premises) {
                    List<Integer> inner = allFollow ? proof(put(premise, bound), steps - 1) : null;
                    allFollow = inner != null;
                    all.addAll(allFollow ? inner : List.of());
                }
                if (allFollow) {
                    return all;
                }
            }
        }
        return null;
    }

    int tried(int what) {
        return what == 0 ? tries : what == 1 ? taken : what == 2 ? first : -1;
    }

    int about(int what) {
        int[] all = {terms.size(), statements.size(), arities.size(), hits.size()};
        return what >= 0 && what < 4 ? all[what] : -1;
    }
}
