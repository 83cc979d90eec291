import java.util.ArrayList;
import java.util.Arrays;
import java.util.Collections;
import java.util.HashMap;
import java.util.List;
import java.util.Map;

/**
 * A second reading of the document, written for plainness: lists and maps, and every match and every
 * plan is tried. ModelTest compares the class with it.
 */
final class Model {
    static final int NUMBER = -1;
    static final int FULL = -2;
    static final int KIND = -3;
    static final int STATE = -4;
    static final int NONE = -5;
    static final int SIZE = -6;
    static final int OWN = -7;
    static final int FAULT = -10;

    record Text(List<Integer> signs, int hand, int state) { }

    record Piece(int kind, List<Integer> signs, Map<Integer, Text> texts, int from, int story) {
        Piece copy() {
            return new Piece(kind, signs, new HashMap<>(texts), from, story);
        }
    }

    record Hand(int tongues, int hours, int rate) {
        boolean knows(int tongue) {
            return Arrays.asList(tongues % 2 == 1, tongues / 2 % 2 == 1, tongues / 4 == 1).get(tongue);
        }
    }

    record Remembered(List<Integer> piece, int tongue, List<Integer> text) { }

    record Term(int word, int tongue) { }

    private final List<Integer> draft = new ArrayList<>();
    private List<Piece> source = new ArrayList<>();
    private List<Piece> next = new ArrayList<>();
    private final List<Hand> hands = new ArrayList<>();
    private final Map<Term, Integer> terms = new HashMap<>();
    private List<Remembered> memory = new ArrayList<>();
    private int limit = 6;
    private List<Piece> keptSource;
    private List<Remembered> keptMemory;

    // ---- what is what

    private static boolean word(int s) {
        return 0 <= s && s <= 99;
    }

    private static boolean hole(int s) {
        return 100 <= s && s <= 103;
    }

    private static boolean own(int s) {
        return 200 <= s && s <= 299;
    }

    private static boolean tongue(int t) {
        return t == 0 || t == 1 || t == 2;
    }

    private boolean has(int piece) {
        return 0 <= piece && piece < source.size();
    }

    private boolean hasHand(int hand) {
        return 0 <= hand && hand < hands.size();
    }

    boolean knows(int hand, int tongue) {
        return hasHand(hand) && tongue(tongue) && hands.get(hand).knows(tongue);
    }

    static int distance(List<Integer> a, List<Integer> b) {
        int[][] d = new int[a.size() + 1][b.size() + 1];
        for (int i = 0; i <= a.size(); i++) {
            for (int j = 0; j <= b.size(); j++) {
                if (i == 0 || j == 0) {
                    d[i][j] = i + j;
                    continue;
                }
                int change = a.get(i - 1).equals(b.get(j - 1)) ? 0 : 1;
                d[i][j] = Collections.min(List.of(d[i - 1][j] + 1, d[i][j - 1] + 1, d[i - 1][j - 1] + change));
            }
        }
        return d[a.size()][b.size()];
    }

    // ---- the source

    int sign(int s) {
        if (!word(s) && !hole(s) && !own(s)) {
            return NUMBER;
        }
        if (draft.size() == 10) {
            return FULL;
        }
        draft.add(s);
        return draft.size();
    }

    int scrap() {
        int n = draft.size();
        draft.clear();
        return n;
    }

    int piece(int kind) {
        if (kind != 0 && kind != 1 && kind != 2) {
            return NUMBER;
        }
        if (draft.isEmpty() || draft.size() > 8) {
            return SIZE;
        }
        if (draft.stream().anyMatch(Model::own)) {
            return KIND;
        }
        if (next.size() == 8) {
            return FULL;
        }
        next.add(new Piece(kind, List.copyOf(draft), new HashMap<>(), NONE, 3));
        draft.clear();
        return next.size() - 1;
    }

    int drop() {
        int n = next.size();
        next.clear();
        return n;
    }

    private int[] bestMatch;
    private int bestMatchCost;

    int turn() {
        if (next.isEmpty()) {
            return NONE;
        }
        bestMatch = null;
        int[][] far = new int[next.size()][source.size()];
        for (int i = 0; i < next.size(); i++) {
            for (int j = 0; j < source.size(); j++) {
                far[i][j] = distance(next.get(i).signs(), source.get(j).signs());
            }
        }
        tryMatches(0, new int[next.size()], new boolean[source.size()], 0, far);
        List<Piece> turned = new ArrayList<>();
        for (int i = 0; i < next.size(); i++) {
            turned.add(turnedPiece(i, bestMatch[i]));
        }
        source = turned;
        next = new ArrayList<>();
        return bestMatchCost;
    }

    /** In the order that the document prefers, so that only a cheaper one is better. */
    private void tryMatches(int i, int[] match, boolean[] used, int cost, int[][] far) {
        if (i == match.length) {
            if (bestMatch == null || cost < bestMatchCost) {
                bestMatch = match.clone();
                bestMatchCost = cost;
            }
            return;
        }
        for (int j = 0; j < used.length; j++) {
            if (!used[j]) {
                used[j] = true;
                match[i] = j;
                tryMatches(i + 1, match, used, cost + far[i][j], far);
                used[j] = false;
            }
        }
        match[i] = NONE;
        tryMatches(i + 1, match, used, cost + next.get(i).signs().size(), far);
    }

    private Piece turnedPiece(int place, int given) {
        Piece piece = next.get(place);
        if (given == NONE) {
            return piece;
        }
        Piece before = source.get(given);
        boolean same = piece.signs().equals(before.signs());
        Map<Integer, Text> texts = new HashMap<>();
        if (piece.kind() != 1) {
            before.texts().forEach((t, x) -> texts.put(t, same ? x : new Text(x.signs(), x.hand(), 3)));
        }
        int story = !same ? 2 : place == given ? 0 : 1;
        return new Piece(piece.kind(), piece.signs(), texts, given, story);
    }

    private static int signAt(List<Integer> signs, int i) {
        return 0 <= i && i < signs.size() ? signs.get(i) : NUMBER;
    }

    int of(int piece, int what) {
        if (!has(piece)) {
            return NUMBER;
        }
        Piece p = source.get(piece);
        return what == 0 ? p.kind() : what == 1 ? p.signs().size() : what >= 10 ? signAt(p.signs(), what - 10) : NUMBER;
    }

    int far(int piece, int other) {
        return has(piece) && has(other) ? distance(source.get(piece).signs(), source.get(other).signs()) : NUMBER;
    }

    int from(int piece) {
        return has(piece) ? source.get(piece).from() : NUMBER;
    }

    int story(int piece) {
        return has(piece) ? source.get(piece).story() : NUMBER;
    }

    // ---- texts

    int hand(int tongues, int hours, int rate) {
        if (tongues < 1 || tongues > 7 || hours < 0 || hours > 20 || rate < 1 || rate > 9) {
            return NUMBER;
        }
        if (hands.size() == 5) {
            return FULL;
        }
        hands.add(new Hand(tongues, hours, rate));
        return hands.size() - 1;
    }

    int hours(int hand, int n) {
        if (!hasHand(hand) || n < 0 || n > 20) {
            return NUMBER;
        }
        Hand h = hands.get(hand);
        hands.set(hand, new Hand(h.tongues(), n, h.rate()));
        return h.hours();
    }

    int term(int word, int tongue, int own) {
        if (!word(word) || !tongue(tongue) || !own(own)) {
            return NUMBER;
        }
        if (terms.size() == 10 && !terms.containsKey(new Term(word, tongue))) {
            return FULL;
        }
        terms.put(new Term(word, tongue), own);
        return terms.size();
    }

    int forget(int word, int tongue) {
        if (!word(word) || !tongue(tongue)) {
            return NUMBER;
        }
        return terms.remove(new Term(word, tongue)) == null ? NONE : terms.size();
    }

    int write(int piece, int tongue, int hand) {
        if (!has(piece) || !tongue(tongue) || !hasHand(hand)) {
            return NUMBER;
        }
        if (source.get(piece).kind() == 1 || !hands.get(hand).knows(tongue)) {
            return KIND;
        }
        if (draft.isEmpty()) {
            return SIZE;
        }
        if (draft.stream().anyMatch(Model::word)) {
            return KIND;
        }
        source.get(piece).texts().put(tongue, new Text(List.copyOf(draft), hand, 1));
        return scrap();
    }

    int review(int piece, int tongue, int hand) {
        if (!has(piece) || !tongue(tongue) || !hasHand(hand)) {
            return NUMBER;
        }
        Piece p = source.get(piece);
        Text text = p.texts().get(tongue);
        if (text == null || text.state() == 2) {
            return STATE;
        }
        if (!hands.get(hand).knows(tongue)) {
            return KIND;
        }
        if (text.hand() == hand) {
            return OWN;
        }
        int fault = fault(piece, tongue);
        if (fault != 0) {
            return FAULT - fault;
        }
        p.texts().put(tongue, new Text(text.signs(), text.hand(), 2));
        Remembered one = new Remembered(p.signs(), tongue, text.signs());
        if (!memory.contains(one)) {
            memory.add(one);
            if (memory.size() > 20) {
                memory.remove(0);
            }
        }
        return memory.size();
    }

    int reuse(int piece, int tongue, int hand) {
        if (!has(piece) || !tongue(tongue) || !hasHand(hand)) {
            return NUMBER;
        }
        if (source.get(piece).kind() == 1 || !hands.get(hand).knows(tongue)) {
            return KIND;
        }
        int k = nearestOf(piece, tongue);
        if (k == NONE) {
            return NONE;
        }
        source.get(piece).texts().put(tongue, new Text(memory.get(k).text(), hand, 1));
        return memory.get(k).text().size();
    }

    int text(int piece, int tongue, int what) {
        if (!has(piece) || !tongue(tongue)) {
            return NUMBER;
        }
        Text text = source.get(piece).texts().getOrDefault(tongue, new Text(List.of(), NONE, 0));
        return switch (what) {
            case 0 -> text.state();
            case 1 -> text.hand();
            case 2 -> text.signs().size();
            default -> what < 10 ? NUMBER : signAt(text.signs(), what - 10);
        };
    }

    int fault(int piece, int tongue) {
        if (!has(piece) || !tongue(tongue)) {
            return NUMBER;
        }
        Piece p = source.get(piece);
        Text text = p.texts().get(tongue);
        if (text == null) {
            return NONE;
        }
        for (int hole = 100; hole <= 103; hole++) {
            if (Collections.frequency(p.signs(), hole) != Collections.frequency(text.signs(), hole)) {
                return 1;
            }
        }
        for (Map.Entry<Term, Integer> term : terms.entrySet()) {
            if (term.getKey().tongue() == tongue && p.signs().contains(term.getKey().word())
                    && !text.signs().contains(term.getValue())) {
                return 2;
            }
        }
        return p.kind() == 2 && text.signs().size() > limit ? 3 : 0;
    }

    int limit(int n) {
        if (n < 1 || n > 10) {
            return NUMBER;
        }
        int had = limit;
        limit = n;
        return had;
    }

    // ---- memory

    private int nearestOf(int piece, int tongue) {
        int best = NONE;
        for (int k = memory.size() - 1; k >= 0; k--) {
            if (memory.get(k).tongue() == tongue
                    && (best == NONE || farFrom(piece, k) < farFrom(piece, best))) {
                best = k;
            }
        }
        return best;
    }

    private int farFrom(int piece, int k) {
        return distance(source.get(piece).signs(), memory.get(k).piece());
    }

    int nearest(int piece, int tongue, int what) {
        if (!has(piece) || !tongue(tongue) || what < 0 || what > 2) {
            return NUMBER;
        }
        int k = nearestOf(piece, tongue);
        if (k == NONE) {
            return NONE;
        }
        return what == 0 ? k : what == 1 ? farFrom(piece, k) : memory.get(k).text().size();
    }

    int memory(int k, int what) {
        if (k < 0 || k >= memory.size()) {
            return NUMBER;
        }
        Remembered one = memory.get(k);
        return switch (what) {
            case 0 -> one.tongue();
            case 1 -> one.piece().size();
            case 2 -> one.text().size();
            default -> what < 10 ? NUMBER : what < 20 ? signAt(one.piece(), what - 10) : signAt(one.text(), what - 20);
        };
    }

    // ---- work

    private boolean reviewed(int piece, int tongue) {
        Text text = source.get(piece).texts().get(tongue);
        return text != null && text.state() == 2;
    }

    int effort(int piece, int tongue) {
        if (!has(piece) || !tongue(tongue)) {
            return NUMBER;
        }
        if (source.get(piece).kind() == 1 || reviewed(piece, tongue)) {
            return 0;
        }
        int k = nearestOf(piece, tongue);
        int far = k == NONE ? 99 : farFrom(piece, k);
        return far == 0 ? 1 : far <= 2 ? 2 : source.get(piece).signs().size();
    }

    private int[] bestPlan;
    private int bestPlanCount;
    private int bestPlanCost;

    private void makePlan(int tongue) {
        bestPlan = null;
        int[] efforts = new int[source.size()];
        for (int i = 0; i < efforts.length; i++) {
            efforts[i] = effort(i, tongue);
        }
        int[] left = hands.stream().mapToInt(h -> h.knows(tongue) ? h.hours() : 0).toArray();
        tryPlans(0, new int[efforts.length], efforts, left, 0, 0);
    }

    /** In the order that the document prefers, so that only a better count or cost is better. */
    private void tryPlans(int i, int[] plan, int[] efforts, int[] left, int count, int cost) {
        if (i == plan.length) {
            if (bestPlan == null || count > bestPlanCount || count == bestPlanCount && cost < bestPlanCost) {
                bestPlan = plan.clone();
                bestPlanCount = count;
                bestPlanCost = cost;
            }
            return;
        }
        for (int h = 0; h < left.length && efforts[i] > 0; h++) {
            if (efforts[i] <= left[h]) {
                left[h] -= efforts[i];
                plan[i] = h;
                tryPlans(i + 1, plan, efforts, left, count + 1, cost + efforts[i] * hands.get(h).rate());
                left[h] += efforts[i];
            }
        }
        plan[i] = NONE;
        tryPlans(i + 1, plan, efforts, left, count, cost);
    }

    int plan(int tongue, int piece) {
        if (!tongue(tongue) || !has(piece)) {
            return NUMBER;
        }
        makePlan(tongue);
        return bestPlan[piece];
    }

    int planned(int tongue, int what) {
        if (!tongue(tongue) || what < 0 || what > 2) {
            return NUMBER;
        }
        if (what == 2) {
            int needy = 0;
            for (int i = 0; i < source.size(); i++) {
                needy += effort(i, tongue) > 0 ? 1 : 0;
            }
            return needy;
        }
        makePlan(tongue);
        return what == 0 ? bestPlanCount : bestPlanCost;
    }

    private List<Integer> released(int tongue) {
        List<Integer> all = new ArrayList<>();
        for (int i = 0; i < source.size(); i++) {
            Piece p = source.get(i);
            all.addAll(reviewed(i, tongue) ? p.texts().get(tongue).signs() : p.signs());
        }
        return all;
    }

    int release(int tongue, int i) {
        if (!tongue(tongue)) {
            return NUMBER;
        }
        List<Integer> all = released(tongue);
        return i < 0 || i >= all.size() ? NONE : all.get(i);
    }

    private int textsIn(int state) {
        return (int) source.stream().flatMap(p -> p.texts().values().stream())
                .filter(t -> t.state() == state).count();
    }

    int many(int what) {
        return switch (what) {
            case 0 -> source.size();
            case 1 -> next.size();
            case 2 -> draft.size();
            case 3 -> hands.size();
            case 4 -> terms.size();
            case 5 -> memory.size();
            case 6, 7, 8 -> textsIn(what - 5);
            case 9, 10, 11 -> released(what - 9).size();
            default -> NUMBER;
        };
    }

    // ---- kept

    private static List<Piece> copyOf(List<Piece> pieces) {
        List<Piece> copy = new ArrayList<>();
        pieces.forEach(p -> copy.add(p.copy()));
        return copy;
    }

    int keep() {
        keptSource = copyOf(source);
        keptMemory = new ArrayList<>(memory);
        return 1;
    }

    int back() {
        if (keptSource == null) {
            return NONE;
        }
        source = copyOf(keptSource);
        memory = new ArrayList<>(keptMemory);
        return 1;
    }
}
