import java.util.ArrayDeque;
import java.util.ArrayList;
import java.util.Deque;
import java.util.HashMap;
import java.util.HashSet;
import java.util.List;
import java.util.Map;
import java.util.NoSuchElementException;
import java.util.Set;
import java.util.SortedSet;
import java.util.TreeSet;

/** The document once more, said as plainly as the Java library allows, to compare the class with. */
public final class Model {
    private static final String DIGITS = "01230120022455012623010202";

    private final List<Integer> ranks = new ArrayList<>();
    private final List<Integer> sources = new ArrayList<>();
    private final List<String> names = new ArrayList<>();
    private final List<int[]> numbers = new ArrayList<>();
    private final int[][] weights = {{4, -2}, {5, -3}, {6, -1}, {1, -1}};
    private int threshold = 5;
    private final Set<Set<Integer>> forbidden = new HashSet<>();
    private final List<int[]> merges = new ArrayList<>();
    private final Set<Integer> undone = new HashSet<>();
    private final List<Set<Integer>> groups = new ArrayList<>();
    private String query = "";

    public Model() {
        for (int group = 0; group < 4; group++) {
            groups.add(new HashSet<>());
        }
    }

    public int addSource(int rank) {
        argument(rank >= 1 && rank <= 9);
        state(ranks.size() < 4);
        ranks.add(rank);
        return ranks.size() - 1;
    }

    public int setRank(int source, int rank) {
        index(source, ranks.size());
        argument(rank >= 1 && rank <= 9);
        return ranks.set(source, rank);
    }

    public int addCard(int source) {
        index(source, ranks.size());
        state(sources.size() < 16);
        sources.add(source);
        names.add("");
        numbers.add(new int[] {-1, -1, -1});
        return sources.size() - 1;
    }

    public int cards() {
        return sources.size();
    }

    public int letter(int card, char letter) {
        index(card, cards());
        argument(letter >= 'a' && letter <= 'z');
        state(names.get(card).length() < 10);
        names.set(card, names.get(card) + letter);
        return names.get(card).length();
    }

    public int clearName(int card) {
        index(card, cards());
        return names.set(card, "").length();
    }

    public int setNumber(int card, int field, int value) {
        index(card, cards());
        argument(field >= 1 && field <= 3 && value >= -1 && value <= 999);
        int before = numbers.get(card)[field - 1];
        numbers.get(card)[field - 1] = value;
        return before;
    }

    public int nameLength(int card) {
        index(card, cards());
        return names.get(card).length();
    }

    public char nameAt(int card, int index) {
        index(card, cards());
        there(index >= 0 && index < names.get(card).length());
        return names.get(card).charAt(index);
    }

    public char soundAt(int card, int index) {
        index(card, cards());
        String sound = sound(names.get(card));
        there(index >= 0 && index < sound.length());
        return sound.charAt(index);
    }

    public int number(int card, int field) {
        index(card, cards());
        argument(field >= 1 && field <= 3);
        return numbers.get(card)[field - 1];
    }

    public int setWeights(int field, int same, int another) {
        argument(field >= 0 && field <= 3 && Math.abs((long) same) <= 9 && Math.abs((long) another) <= 9);
        int before = weights[field][0];
        weights[field] = new int[] {same, another};
        return before;
    }

    public int setThreshold(int threshold) {
        argument(Math.abs((long) threshold) <= 40);
        int before = this.threshold;
        this.threshold = threshold;
        return before;
    }

    public int score(int card, int other) {
        index(card, cards());
        index(other, cards());
        argument(card != other);
        int sum = 0;
        for (int field = 0; field < 4; field++) {
            Object one = value(card, field);
            Object two = value(other, field);
            if (one != null && two != null) {
                boolean similar = field == 0 && sound((String) one).equals(sound((String) two));
                sum += one.equals(two) ? weights[field][0]
                        : similar ? (int) Math.floor(weights[field][0] / 2.0) : weights[field][1];
            }
        }
        return sum;
    }

    public int candidates() {
        return candidatePairs().size();
    }

    public int bestScore() {
        int[] best = best();
        return score(best[0], best[1]);
    }

    public int bestScoreByPairs() {
        return bestScore();
    }

    public int bestOne() {
        return best()[0];
    }

    public int bestOther() {
        return best()[1];
    }

    public int forbid(int card, int other) {
        index(card, cards());
        index(other, cards());
        argument(card != other);
        if (members(card).contains(other)) {
            throw new UnsupportedOperationException();
        }
        state(!forbidden.contains(Set.of(card, other)) && forbidden.size() < 12);
        forbidden.add(Set.of(card, other));
        return forbidden.size();
    }

    public int allow(int card, int other) {
        index(card, cards());
        index(other, cards());
        there(card != other && forbidden.remove(Set.of(card, other)));
        return forbidden.size();
    }

    public char why(int card, int other) {
        index(card, cards());
        index(other, cards());
        return members(card).contains(other) ? 't' : forbidden.contains(Set.of(card, other)) ? 'd'
                : bars(card, other).isEmpty() ? '-' : 'i';
    }

    public int barOne(int card, int other) {
        index(card, cards());
        index(other, cards());
        List<int[]> bars = bars(card, other);
        there(!bars.isEmpty());
        return bars.get(0)[0];
    }

    public int barOther(int card, int other) {
        barOne(card, other);
        return bars(card, other).get(0)[1];
    }

    public int merge(int card, int other) {
        index(card, cards());
        index(other, cards());
        if (!bars(card, other).isEmpty()) {
            throw new UnsupportedOperationException();
        }
        state(!members(card).contains(other) && merges.size() < 30);
        merges.add(new int[] {card, other});
        return merges.size() - 1;
    }

    public int mergeBest() {
        int[] best = best();
        return merge(best[0], best[1]);
    }

    public int undo(int merge) {
        index(merge, merges.size());
        state(undone.add(merge));
        return persons();
    }

    public boolean stands(int merge) {
        index(merge, merges.size());
        return !undone.contains(merge);
    }

    public int steps(int card, int other) {
        index(card, cards());
        index(other, cards());
        Integer steps = distances(card).get(other);
        there(steps != null);
        return steps;
    }

    public int person(int card) {
        index(card, cards());
        return members(card).first();
    }

    public int personByRounds(int card) {
        return person(card);
    }

    public int persons() {
        return personsOf(allCards()).size();
    }

    public int size(int card) {
        index(card, cards());
        return members(card).size();
    }

    public int fieldFrom(int card, int field) {
        index(card, cards());
        argument(field >= 0 && field <= 3);
        int from = -1;
        for (int member : members(card).descendingSet()) {
            if (value(member, field) != null && (from < 0 || rankOf(member) >= rankOf(from))) {
                from = member;
            }
        }
        there(from >= 0);
        return from;
    }

    public int conflicts(int card) {
        index(card, cards());
        int fields = 0;
        for (int field = 0; field < 4; field++) {
            Set<Object> values = new HashSet<>();
            for (int member : members(card)) {
                values.add(value(member, field));
            }
            values.remove(null);
            fields += values.size() > 1 ? 1 : 0;
        }
        return fields;
    }

    public int join(int group, int card) {
        index(group, 4);
        index(card, cards());
        state(groups.get(group).add(card));
        return groups.get(group).size();
    }

    public int leave(int group, int card) {
        index(group, 4);
        index(card, cards());
        there(groups.get(group).remove(card));
        return groups.get(group).size();
    }

    public boolean isIn(int group, int card) {
        index(group, 4);
        index(card, cards());
        return personsOf(groups.get(group)).contains(members(card).first());
    }

    public int personsIn(int group) {
        index(group, 4);
        return personsOf(groups.get(group)).size();
    }

    public int type(char letter) {
        argument(letter >= 'a' && letter <= 'z');
        state(query.length() < 10);
        query += letter;
        return query.length();
    }

    public int clearQuery() {
        int before = query.length();
        query = "";
        return before;
    }

    public int found(boolean bySound) {
        return foundPersons(bySound).size();
    }

    public int foundAt(boolean bySound, int rank) {
        List<Integer> persons = new ArrayList<>(foundPersons(bySound));
        there(rank >= 0 && rank < persons.size());
        return persons.get(rank);
    }

    public float mergedShare() {
        there(cards() > 0);
        float merged = 0;
        for (int card : allCards()) {
            merged += members(card).size() == 1 ? 0 : 1;
        }
        return merged / cards();
    }

    int mergesMade() {
        return merges.size();
    }

    private static void argument(boolean holds) {
        if (!holds) {
            throw new IllegalArgumentException();
        }
    }

    private static void state(boolean holds) {
        if (!holds) {
            throw new IllegalStateException();
        }
    }

    private static void there(boolean holds) {
        if (!holds) {
            throw new NoSuchElementException();
        }
    }

    private static void index(int index, int size) {
        if (index < 0 || index >= size) {
            throw new IndexOutOfBoundsException();
        }
    }

    private static String sound(String name) {
        if (name.isEmpty()) {
            return "";
        }
        StringBuilder digits = new StringBuilder();
        for (char letter : name.toCharArray()) {
            digits.append(DIGITS.charAt(letter - 'a'));
        }
        // Runs of a digit count once; the first letter's own run gives the letter instead of its digit.
        String single = digits.toString().replaceAll("([1-6])\\1+", "$1").substring(1).replace("0", "");
        return name.charAt(0) + single.substring(0, Math.min(3, single.length()));
    }

    private Object value(int card, int field) {
        if (field == 0) {
            return names.get(card).isEmpty() ? null : names.get(card);
        }
        int number = numbers.get(card)[field - 1];
        return number < 0 ? null : number;
    }

    private int rankOf(int card) {
        return ranks.get(sources.get(card));
    }

    private SortedSet<Integer> allCards() {
        SortedSet<Integer> all = new TreeSet<>();
        for (int card = 0; card < cards(); card++) {
            all.add(card);
        }
        return all;
    }

    private Map<Integer, Integer> distances(int card) {
        Map<Integer, Integer> distances = new HashMap<>();
        Deque<Integer> next = new ArrayDeque<>();
        distances.put(card, 0);
        next.add(card);
        while (!next.isEmpty()) {
            int at = next.remove();
            for (int merge = 0; merge < merges.size(); merge++) {
                int[] pair = merges.get(merge);
                if (!undone.contains(merge) && (pair[0] == at || pair[1] == at)) {
                    int to = pair[0] + pair[1] - at;
                    if (distances.putIfAbsent(to, distances.get(at) + 1) == null) {
                        next.add(to);
                    }
                }
            }
        }
        return distances;
    }

    private TreeSet<Integer> members(int card) {
        return new TreeSet<>(distances(card).keySet());
    }

    private SortedSet<Integer> personsOf(Set<Integer> some) {
        SortedSet<Integer> persons = new TreeSet<>();
        for (int card : some) {
            persons.add(members(card).first());
        }
        return persons;
    }

    /** The forbidden pairs between two persons, in the order of the first one's cards, then of the second one's. */
    private List<int[]> bars(int card, int other) {
        List<int[]> bars = new ArrayList<>();
        for (int one : members(card)) {
            for (int two : members(other)) {
                if (one != two && forbidden.contains(Set.of(one, two))) {
                    bars.add(new int[] {one, two});
                }
            }
        }
        return bars;
    }

    private List<int[]> candidatePairs() {
        List<int[]> pairs = new ArrayList<>();
        for (int one = 0; one < cards(); one++) {
            for (int two = one + 1; two < cards(); two++) {
                boolean key = !names.get(one).isEmpty() && sound(names.get(one)).equals(sound(names.get(two)));
                for (int field = 1; field <= 2; field++) {
                    key |= value(one, field) != null && value(one, field).equals(value(two, field));
                }
                if (key && score(one, two) >= threshold && why(one, two) == '-') {
                    pairs.add(new int[] {one, two});
                }
            }
        }
        return pairs;
    }

    private int[] best() {
        int[] best = null;
        for (int[] pair : candidatePairs()) {
            if (best == null || score(pair[0], pair[1]) > score(best[0], best[1])) {
                best = pair;
            }
        }
        there(best != null);
        return best;
    }

    private SortedSet<Integer> foundPersons(boolean bySound) {
        Set<Integer> matching = new HashSet<>();
        for (int card : allCards()) {
            String name = names.get(card);
            if (!name.isEmpty() && (bySound ? sound(name).equals(sound(query)) : name.startsWith(query))) {
                matching.add(card);
            }
        }
        return personsOf(matching);
    }
}
