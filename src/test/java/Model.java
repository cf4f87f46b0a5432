import java.util.ArrayList;
import java.util.HashSet;
import java.util.List;
import java.util.Set;
import java.util.TreeSet;

/**
 * The document again, told as plainly as it can be and with no care for cost:
 * every order is gone through, every ring is written out as a text, every call
 * finds everything anew. ModelTests holds FenceWays against it.
 */
final class Model {
    static final int NONE = -1, UNKNOWN = -1000000001, OUTSIDE = -1000000002, NOT = -1000000003, FULL = -1000000004;

    private static final class Step {
        final int thread, cell;
        final boolean writes;

        Step(int thread, int cell, boolean writes) {
            this.thread = thread;
            this.cell = cell;
            this.writes = writes;
        }
    }

    private static final class State {
        final Set<Integer> fences = new TreeSet<>();
        final int[] costs = {1, 1, 1, 1, 1, 1, 1, 1};
        int overtaking = 15;
        long seed = 0;

        State copy() {
            State other = new State();
            other.fences.addAll(fences);
            System.arraycopy(costs, 0, other.costs, 0, 8);
            other.overtaking = overtaking;
            other.seed = seed;
            return other;
        }
    }

    private String text = "";
    private int faultPlace = NONE;
    private int threads = 0;
    private List<Step> steps = new ArrayList<>();
    private State state = new State();
    private final List<State> ahead = new ArrayList<>();
    private final State[] images = new State[2];
    private final List<Integer> numbers = new ArrayList<>();
    private final List<Boolean> cans = new ArrayList<>();

    int feed(int letter) {
        if (letter < 0 || letter > 255) return OUTSIDE;
        if (text.length() == 120) return FULL;
        text += (char) letter;
        return text.length();
    }

    int threads() {
        String told = text + "$";
        text = "";
        int newThreads = 0;
        List<Step> newSteps = new ArrayList<>();
        String clause = "";
        for (int i = 0; i < told.length(); i++) {
            char c = told.charAt(i);
            boolean end = i == told.length() - 1;
            if (c == ' ' && !end) continue;
            int number = 0;
            if (end) {
                number = clause.isEmpty() ? 0 : 1;
            } else if (clause.isEmpty()) {
                if (c == 't') number = newThreads == 3 ? 3 : 0;
                else if (c != 'r' && c != 'w' || newThreads == 0) number = 1;
                else number = newSteps.size() == 8 ? 3 : 0;
            } else if (clause.equals("r") || clause.equals("w")) {
                number = "012".indexOf(c) >= 0 ? 0 : "3456789".indexOf(c) >= 0 ? 2 : 1;
            } else {
                number = c == ';' ? 0 : 1;
            }
            if (number != 0) {
                faultPlace = i;
                return -10 - number;
            }
            clause += c;
            if (clause.equals("t;")) {
                newThreads++;
                clause = "";
            } else if (clause.length() == 3) {
                newSteps.add(new Step(newThreads - 1, clause.charAt(1) - '0', clause.charAt(0) == 'w'));
                clause = "";
            }
        }
        faultPlace = NONE;
        threads = newThreads;
        steps = newSteps;
        long seed = state.seed;
        state = new State();
        state.seed = seed;
        ahead.clear();
        images[0] = null;
        images[1] = null;
        tear();
        return steps.size();
    }

    int fault() {
        return faultPlace;
    }

    int told(int what) {
        if (what < 0 || what > 18) return OUTSIDE;
        if (what == 0) return threads;
        if (what == 1) return steps.size();
        if (what == 2) return text.length();
        if (what == 3) return state.overtaking;
        if (what == 4) return setOf(state.fences);
        if (what == 5) return costOf(state.fences);
        if (what == 6) return readings(0).size();
        if (what == 7) return readings(1).size();
        if (what == 8) return readings(2).size();
        if (what == 9) return rings().size();
        if (what == 10) return loosePairs().size();
        if (what == 11) return held(state.fences);
        if (what == 12) return held(state.fences) == loosePairs().size() ? 1 : 0;
        if (what == 13) return setOf(bestOf());
        if (what == 14) return costOf(bestOf());
        if (what == 15) return setOf(needed());
        if (what == 16) return numbers.size();
        if (what == 17) return wrong();
        return ahead.size();
    }

    int step(int s, int what) {
        if (s < 0 || s >= steps.size()) return UNKNOWN;
        if (what < 0 || what > 6) return OUTSIDE;
        Set<Integer> set = new HashSet<>();
        switch (what) {
            case 0: return steps.get(s).thread;
            case 1: return steps.get(s).cell;
            case 2: return steps.get(s).writes ? 1 : 0;
            case 3: return isGap(s) ? state.costs[s] : NONE;
            case 4: return isGap(s) ? held(Set.of(s)) : NONE;
            case 5:
                for (int a = 0; a < s; a++) if (waits(a, s, false)) set.add(a);
                return setOf(set);
            default:
                for (int a = 0; a < steps.size(); a++) if (conflict(a, s)) set.add(a);
                return setOf(set);
        }
    }

    int pair(int s, int u, int what) {
        int n = steps.size();
        if (s < 0 || u < 0 || s >= n || u >= n || s == u) return UNKNOWN;
        if (what < 0 || what > 3) return OUTSIDE;
        if (s > u || steps.get(s).thread != steps.get(u).thread) return NOT;
        String name = "" + s + u;
        int given = 0;
        for (String ring : rings()) {
            for (String part : ring.split(" ")) if (part.equals(name)) given++;
        }
        if (what == 3) return given;
        if (given == 0) return 0;
        if (what == 0) return 1;
        if (what == 1) return loosePairs().contains(name) ? 1 : 0;
        return isBetween(s, u, state.fences) ? 1 : 0;
    }

    int reading(int i, int what) {
        if (what < 0 || what > 2) return OUTSIDE;
        List<Integer> all = new ArrayList<>(readings(what));
        return i >= 0 && i < all.size() ? all.get(i) : NONE;
    }

    int can(int number) {
        return readings(1).contains(number) ? 2 : readings(0).contains(number) ? 1 : 0;
    }

    int fence(int gap, boolean is) {
        if (!isGap(gap)) return UNKNOWN;
        remember();
        if (is) state.fences.add(gap);
        else state.fences.remove(gap);
        return costOf(state.fences);
    }

    int cost(int gap, int v) {
        if (!isGap(gap)) return UNKNOWN;
        if (v < 1 || v > 9) return OUTSIDE;
        remember();
        int was = state.costs[gap];
        state.costs[gap] = v;
        return was;
    }

    int overtaking(int set) {
        if (set < 0 || set > 15) return OUTSIDE;
        remember();
        state.overtaking = set;
        return readings(0).size();
    }

    int best() {
        Set<Integer> fences = bestOf();
        remember();
        state.fences.clear();
        state.fences.addAll(fences);
        return costOf(fences);
    }

    int drift(int n) {
        if (n < 1 || n > 20) return OUTSIDE;
        for (int i = 0; i < n && !steps.isEmpty(); i++) {
            remember();
            int a = draw(4), s = draw(steps.size()), c = draw(9), o = draw(16);
            if (a <= 1 && isGap(s)) {
                if (!state.fences.remove(s)) state.fences.add(s);
            }
            if (a == 2 && isGap(s)) state.costs[s] = c + 1;
            if (a == 3) state.overtaking = o;
        }
        return setOf(state.fences);
    }

    int undo(int n) {
        if (n < 1 || n > 20) return OUTSIDE;
        if (n > ahead.size()) return NOT;
        long seed = state.seed;
        for (int i = 0; i < n; i++) state = ahead.remove(ahead.size() - 1);
        state.seed = seed;
        return ahead.size();
    }

    int write(int number, boolean can) {
        if (number < 0 || number > 43046720) return OUTSIDE;
        if (numbers.size() == 20) return FULL;
        numbers.add(number);
        cans.add(can);
        return numbers.size();
    }

    int tear() {
        int had = numbers.size();
        numbers.clear();
        cans.clear();
        return had;
    }

    int seed(int v) {
        if (v < 0) return OUTSIDE;
        int was = (int) state.seed;
        state.seed = v;
        return was;
    }

    int keep(int i) {
        if (i < 0 || i > 1) return UNKNOWN;
        images[i] = state.copy();
        ahead.clear();
        return 1;
    }

    int goBack(int i) {
        if (i < 0 || i > 1) return UNKNOWN;
        if (images[i] == null) return NOT;
        state = images[i].copy();
        ahead.clear();
        return 1;
    }

    private void remember() {
        ahead.add(state.copy());
        if (ahead.size() > 20) ahead.remove(0);
    }

    private int draw(int n) {
        state.seed = (state.seed * 1103515245L + 12345L) % (1L << 31);
        return (int) (state.seed / 65536 % n);
    }

    private boolean isGap(int s) {
        return s >= 1 && s < steps.size() && steps.get(s).thread == steps.get(s - 1).thread;
    }

    private boolean isBetween(int s, int u, Set<Integer> fences) {
        for (int gap : fences) if (s < gap && gap <= u) return true;
        return false;
    }

    private boolean waits(int a, int s, boolean strict) {
        Step former = steps.get(a), latter = steps.get(s);
        if (a >= s || former.thread != latter.thread) return false;
        return strict || isBetween(a, s, state.fences) || !mayOvertake(former, latter);
    }

    private boolean mayOvertake(Step former, Step latter) {
        String kinds = "wr ww rr rw";
        String kind = (former.writes ? "w" : "r") + (latter.writes ? "w" : "r");
        int number = kinds.indexOf(kind) / 3;
        return former.cell != latter.cell && (state.overtaking >> number) % 2 == 1;
    }

    private boolean conflict(int a, int b) {
        Step x = steps.get(a), y = steps.get(b);
        return x.thread != y.thread && x.cell == y.cell && (x.writes || y.writes);
    }

    private TreeSet<Integer> readings(int what) {
        TreeSet<Integer> found = new TreeSet<>();
        if (what != 2) {
            goThrough(new boolean[steps.size()], 0, new int[3], new int[steps.size()], what == 1, found);
        } else {
            found.addAll(readings(0));
            found.removeAll(readings(1));
        }
        return found;
    }

    private void goThrough(boolean[] done, int many, int[] cells, int[] seen, boolean strict, Set<Integer> found) {
        if (many == steps.size()) {
            int number = 0;
            for (int s = 0; s < many; s++) if (!steps.get(s).writes) number = number * 9 + seen[s];
            found.add(number);
            return;
        }
        next:
        for (int s = 0; s < steps.size(); s++) {
            if (done[s]) continue;
            for (int a = 0; a < s; a++) if (!done[a] && waits(a, s, strict)) continue next;
            Step step = steps.get(s);
            int was = cells[step.cell];
            if (step.writes) cells[step.cell] = s + 1;
            else seen[s] = was;
            done[s] = true;
            goThrough(done, many + 1, cells, seen, strict, found);
            done[s] = false;
            cells[step.cell] = was;
        }
    }

    /** Each ring as "firstlast firstlast ..", begun at the part that makes the text least. */
    private Set<String> rings() {
        Set<String> found = new HashSet<>();
        for (int many = 2; many <= 3; many++) goRound(new ArrayList<>(), many, found);
        return found;
    }

    private void goRound(List<int[]> parts, int many, Set<String> found) {
        if (parts.size() == many) {
            if (isRing(parts)) found.add(named(parts));
            return;
        }
        for (int f = 0; f < steps.size(); f++) {
            for (int l = f; l < steps.size(); l++) {
                Step first = steps.get(f), last = steps.get(l);
                if (first.thread != last.thread) continue;
                if (f == l ? many == 2 || !first.writes : first.cell == last.cell) continue;
                boolean twice = false;
                for (int[] part : parts) twice |= steps.get(part[0]).thread == first.thread;
                if (twice) continue;
                parts.add(new int[] {f, l});
                goRound(parts, many, found);
                parts.remove(parts.size() - 1);
            }
        }
    }

    private boolean isRing(List<int[]> parts) {
        int many = parts.size();
        for (int i = 0; i < many; i++) {
            int[] here = parts.get(i), next = parts.get((i + 1) % many), former = parts.get((i + many - 1) % many);
            if (!conflict(here[1], next[0])) return false;
            if (here[0] == here[1] && (steps.get(next[0]).writes || steps.get(former[1]).writes)) return false;
        }
        return true;
    }

    private String named(List<int[]> parts) {
        String least = null;
        for (int from = 0; from < parts.size(); from++) {
            StringBuilder name = new StringBuilder();
            for (int i = 0; i < parts.size(); i++) {
                int[] part = parts.get((from + i) % parts.size());
                name.append(part[0]).append(part[1]).append(' ');
            }
            if (least == null || name.toString().compareTo(least) < 0) least = name.toString();
        }
        return least;
    }

    private Set<String> loosePairs() {
        Set<String> loose = new HashSet<>();
        for (String ring : rings()) {
            for (String part : ring.split(" ")) {
                int s = part.charAt(0) - '0', u = part.charAt(1) - '0';
                if (s != u && mayOvertake(steps.get(s), steps.get(u))) loose.add(part);
            }
        }
        return loose;
    }

    private int held(Set<Integer> fences) {
        int many = 0;
        for (String pair : loosePairs()) {
            if (isBetween(pair.charAt(0) - '0', pair.charAt(1) - '0', fences)) many++;
        }
        return many;
    }

    private Set<Integer> needed() {
        Set<Integer> needed = new HashSet<>();
        for (int gap : state.fences) {
            Set<Integer> without = new HashSet<>(state.fences);
            without.remove(gap);
            if (held(without) < held(state.fences)) needed.add(gap);
        }
        return needed;
    }

    private Set<Integer> bestOf() {
        Set<Integer> best = null;
        int all = loosePairs().size();
        for (int set = 255; set >= 0; set--) {
            Set<Integer> gaps = new TreeSet<>();
            boolean there = true;
            for (int k = 0; k < 8; k++) {
                if ((set >> k & 1) == 0) continue;
                gaps.add(k);
                there &= isGap(k);
            }
            if (!there || best != null && costOf(gaps) > costOf(best)) continue;
            if (held(gaps) == all) best = gaps;
        }
        return best;
    }

    private int wrong() {
        TreeSet<Integer> all = readings(0);
        for (int i = 0; i < numbers.size(); i++) {
            if (all.contains(numbers.get(i)) != cans.get(i)) return i;
        }
        return NONE;
    }

    private int costOf(Set<Integer> gaps) {
        int sum = 0;
        for (int gap : gaps) sum += state.costs[gap];
        return sum;
    }

    private static int setOf(Set<Integer> of) {
        int set = 0;
        for (int k : of) set += 1 << k;
        return set;
    }
}
