import java.util.ArrayList;
import java.util.Arrays;
import java.util.Collections;
import java.util.HashMap;
import java.util.HashSet;
import java.util.LinkedHashMap;
import java.util.List;
import java.util.Map;
import java.util.Random;
import java.util.Set;

/**
 * The document once more, in the plainest way that there is: worlds are not folded while they are gone through,
 * what can be come to is searched anew from each world. Slow, and unlike the class in all that it does.
 */
final class Naive {
    /** -1 stands for nothing throughout. */
    static final class Rule {
        boolean at;
        int from;
        int with = -1;
        int to;
        int gives = -1;
        int tells = -1;
        int state = -1;
        boolean some;
    }

    static final class Agent {
        int state;
        List<Integer> in = new ArrayList<>();
        int out = -1;

        List<Integer> row() {
            return List.of(state, in.size() > 0 ? in.get(0) : -1, in.size() > 1 ? in.get(1) : -1, out);
        }

        Agent copy() {
            Agent a = new Agent();
            a.state = state;
            a.in = new ArrayList<>(in);
            a.out = out;
            return a;
        }
    }

    static final class Move {
        final int rule;
        final int agent;
        final List<List<Integer>> to;

        Move(int rule, int agent, List<List<Integer>> to) {
            this.rule = rule;
            this.agent = agent;
            this.to = to;
        }
    }

    int agents;
    List<String> states = new ArrayList<>();
    List<String> homes = new ArrayList<>();
    List<String> messages = new ArrayList<>();
    boolean loose;
    List<Rule> rules = new ArrayList<>();
    List<List<int[]>> nevers = new ArrayList<>();
    int wanting = -1;
    int wanted = -1;
    int skipped = -1;

    /** A world is a list of lists: the home alone, then for each agent state, first, second, out. */
    final Map<List<List<Integer>>, List<Move>> moves = new LinkedHashMap<>();
    final Map<List<List<Integer>>, Integer> depth = new HashMap<>();
    final Map<List<List<Integer>>, List<Integer>> ways = new HashMap<>();
    final List<List<List<Integer>>> folded = new ArrayList<>();
    final Map<List<List<Integer>>, Integer> number = new HashMap<>();

    static int compareRows(List<Integer> a, List<Integer> b) {
        for (int k = 0; k < Math.min(a.size(), b.size()); k++) {
            if (!a.get(k).equals(b.get(k))) {
                return Integer.compare(a.get(k), b.get(k));
            }
        }
        return Integer.compare(a.size(), b.size());
    }

    static int compareWorlds(List<List<Integer>> a, List<List<Integer>> b) {
        for (int k = 0; k < a.size(); k++) {
            int c = compareRows(a.get(k), b.get(k));
            if (c != 0) {
                return c;
            }
        }
        return 0;
    }

    List<List<Integer>> firstWorld() {
        List<List<Integer>> w = new ArrayList<>();
        w.add(List.of(homes.isEmpty() ? -1 : 0));
        for (int a = 0; a < agents; a++) {
            w.add(List.of(0, -1, -1, -1));
        }
        return w;
    }

    List<List<Integer>> fold(List<List<Integer>> w) {
        List<List<Integer>> rows = new ArrayList<>(w.subList(1, w.size()));
        rows.sort(Naive::compareRows);
        rows.add(0, w.get(0));
        return rows;
    }

    /** The next world, or null if the move can't be. */
    List<List<Integer>> go(List<List<Integer>> w, int r, int who) {
        if (r == skipped) {
            return null;
        }
        Rule rule = rules.get(r);
        int home = w.get(0).get(0);
        List<Agent> all = new ArrayList<>();
        for (int a = 0; a < agents; a++) {
            List<Integer> row = w.get(a + 1);
            Agent agent = new Agent();
            agent.state = row.get(0);
            if (row.get(1) != -1) {
                agent.in.add(row.get(1));
            }
            if (row.get(2) != -1) {
                agent.in.add(row.get(2));
            }
            agent.out = row.get(3);
            all.add(agent);
        }
        Agent me = all.get(who);
        if (!rule.at) {
            if (me.state != rule.from) {
                return null;
            }
            if (rule.with != -1) {
                int k = me.in.indexOf(rule.with);
                if (k < 0 || (k > 0 && !loose)) {
                    return null;
                }
                me.in.remove(k);
            }
            if (rule.gives != -1) {
                if (me.out != -1) {
                    return null;
                }
                me.out = rule.gives;
            }
            me.state = rule.to;
        } else {
            if (home != rule.from || me.out != rule.with) {
                return null;
            }
            if (rule.state != -1) {
                int others = 0;
                for (int a = 0; a < agents; a++) {
                    others += a != who && all.get(a).state == rule.state ? 1 : 0;
                }
                if (rule.some ? others == 0 : others > 0) {
                    return null;
                }
            }
            me.out = -1;
            home = rule.to;
            for (int a = 0; a < agents; a++) {
                int comes = a == who ? rule.gives : rule.tells;
                if (comes != -1) {
                    all.get(a).in.add(comes);
                    if (all.get(a).in.size() > 2) {
                        return null;
                    }
                    if (loose) {
                        Collections.sort(all.get(a).in);
                    }
                }
            }
        }
        List<List<Integer>> to = new ArrayList<>();
        to.add(List.of(home));
        for (Agent a : all) {
            to.add(a.row());
        }
        return to;
    }

    List<Move> movesFrom(List<List<Integer>> w) {
        List<Move> list = new ArrayList<>();
        for (int r = 0; r < rules.size(); r++) {
            for (int a = 0; a < agents; a++) {
                List<List<Integer>> to = go(w, r, a);
                if (to != null) {
                    list.add(new Move(r, a, to));
                }
            }
        }
        return list;
    }

    /** False if there are more folded worlds than may be. */
    boolean explore() {
        List<List<List<Integer>>> level = new ArrayList<>();
        Set<List<List<Integer>>> kinds = new HashSet<>();
        level.add(firstWorld());
        depth.put(firstWorld(), 0);
        ways.put(firstWorld(), List.of());
        int d = 0;
        while (!level.isEmpty()) {
            List<List<List<Integer>>> next = new ArrayList<>();
            for (List<List<Integer>> w : level) {
                kinds.add(fold(w));
                moves.put(w, movesFrom(w));
            }
            if (kinds.size() > 600) {
                return false;
            }
            for (List<List<Integer>> w : level) {
                for (Move m : moves.get(w)) {
                    if (!depth.containsKey(m.to)) {
                        depth.put(m.to, d + 1);
                        next.add(m.to);
                    }
                    if (depth.get(m.to) == d + 1) {
                        List<Integer> way = new ArrayList<>(ways.get(w));
                        way.add(m.rule);
                        way.add(m.agent);
                        List<Integer> known = ways.get(m.to);
                        if (known == null || compareRows(way, known) < 0) {
                            ways.put(m.to, way);
                        }
                    }
                }
            }
            level = next;
            d++;
        }
        for (List<List<Integer>> w : moves.keySet()) {
            if (fold(w).equals(w)) {
                folded.add(w);
            }
        }
        folded.sort((a, b) -> depth.get(a).equals(depth.get(b)) ? compareWorlds(a, b)
                : Integer.compare(depth.get(a), depth.get(b)));
        for (int k = 0; k < folded.size(); k++) {
            number.put(folded.get(k), k);
        }
        return true;
    }

    int numberOf(List<List<Integer>> w) {
        return number.getOrDefault(fold(w), -1);
    }

    boolean bad(List<List<Integer>> w) {
        for (List<int[]> never : nevers) {
            boolean all = true;
            for (int[] count : never) {
                int many = 0;
                for (int a = 1; a <= agents; a++) {
                    many += w.get(a).get(0) == count[1] ? 1 : 0;
                }
                all = all && many >= count[0];
            }
            if (all) {
                return true;
            }
        }
        return false;
    }

    List<Integer> wayTo(int k) {
        List<Integer> best = null;
        for (List<List<Integer>> w : moves.keySet()) {
            if (fold(w).equals(folded.get(k)) && (best == null || depth.get(w) == best.size() / 2)) {
                if (best == null || compareRows(ways.get(w), best) < 0) {
                    best = ways.get(w);
                }
            }
        }
        return best;
    }

    int standsFor(int k) {
        int many = 0;
        for (List<List<Integer>> w : moves.keySet()) {
            many += fold(w).equals(folded.get(k)) ? 1 : 0;
        }
        return many;
    }

    /** For each folded world the folded ones that can be come to, with none at all too. */
    List<Set<Integer>> closures() {
        List<Set<Integer>> result = new ArrayList<>();
        for (int k = 0; k < folded.size(); k++) {
            Set<Integer> seen = new HashSet<>();
            List<Integer> open = new ArrayList<>();
            seen.add(k);
            open.add(k);
            while (!open.isEmpty()) {
                int w = open.remove(open.size() - 1);
                for (Move m : moves.get(folded.get(w))) {
                    int to = numberOf(m.to);
                    if (seen.add(to)) {
                        open.add(to);
                    }
                }
            }
            result.add(seen);
        }
        return result;
    }

    /** The worlds, not folded, from which the agent can come to the state that is wanted. */
    Set<List<List<Integer>>> hoping(int agent) {
        Map<List<List<Integer>>, List<List<List<Integer>>>> back = new HashMap<>();
        Set<List<List<Integer>>> good = new HashSet<>();
        List<List<List<Integer>>> open = new ArrayList<>();
        for (Map.Entry<List<List<Integer>>, List<Move>> e : moves.entrySet()) {
            for (Move m : e.getValue()) {
                back.computeIfAbsent(m.to, x -> new ArrayList<>()).add(e.getKey());
            }
            if (e.getKey().get(agent + 1).get(0) == wanted) {
                good.add(e.getKey());
                open.add(e.getKey());
            }
        }
        while (!open.isEmpty()) {
            for (List<List<Integer>> w : back.getOrDefault(open.remove(open.size() - 1), List.of())) {
                if (good.add(w)) {
                    open.add(w);
                }
            }
        }
        return good;
    }

    boolean wants(List<List<Integer>> w, int agent) {
        return wanting != -1 && w.get(agent + 1).get(0) == wanting;
    }

    /** Of each world that can come about, by how many agents one starves: all together. */
    int starvingInAll() {
        int sum = 0;
        for (int a = 0; wanting != -1 && a < agents; a++) {
            Set<List<List<Integer>>> good = hoping(a);
            for (List<List<Integer>> w : moves.keySet()) {
                sum += wants(w, a) && !good.contains(w) ? 1 : 0;
            }
        }
        return sum;
    }

    /** The world as the agent sees it: the others may be put otherwise. */
    List<List<Integer>> seenBy(List<List<Integer>> w, int agent) {
        List<List<Integer>> rows = new ArrayList<>(w.subList(1, w.size()));
        List<Integer> own = rows.remove(agent);
        rows.sort(Naive::compareRows);
        rows.add(0, own);
        rows.add(0, w.get(0));
        return rows;
    }

    /** All that agents see from which they can be left out. */
    Set<List<List<Integer>>> leftOutViews() {
        Map<List<List<Integer>>, Set<List<List<Integer>>>> edges = new HashMap<>();
        Map<List<List<Integer>>, Map<Integer, List<List<Integer>>>> own = new HashMap<>();
        for (List<List<Integer>> w : moves.keySet()) {
            for (int a = 0; a < agents; a++) {
                List<List<Integer>> view = seenBy(w, a);
                if (view.get(1).get(0) == wanted) {
                    continue;
                }
                edges.computeIfAbsent(view, x -> new HashSet<>());
                own.computeIfAbsent(view, x -> new HashMap<>());
                for (Move m : moves.get(w)) {
                    List<List<Integer>> to = seenBy(m.to, a);
                    if (to.get(1).get(0) != wanted) {
                        edges.get(view).add(to);
                    }
                    if (m.agent == a && !rules.get(m.rule).at) {
                        own.get(view).put(m.rule, to);
                    }
                }
            }
        }
        Map<List<List<Integer>>, Set<List<List<Integer>>>> after = new HashMap<>();
        for (List<List<Integer>> view : edges.keySet()) {
            Set<List<List<Integer>>> seen = new HashSet<>(edges.get(view));
            List<List<List<Integer>>> open = new ArrayList<>(seen);
            while (!open.isEmpty()) {
                for (List<List<Integer>> to : edges.get(open.remove(open.size() - 1))) {
                    if (seen.add(to)) {
                        open.add(to);
                    }
                }
            }
            after.put(view, seen);
        }
        Set<List<List<Integer>>> inRings = new HashSet<>();
        for (List<List<Integer>> view : edges.keySet()) {
            if (!after.get(view).contains(view)) {
                continue;
            }
            Set<List<List<Integer>>> ring = new HashSet<>();
            for (List<List<Integer>> other : after.get(view)) {
                if (after.get(other).contains(view)) {
                    ring.add(other);
                }
            }
            Set<Integer> can = new HashSet<>();
            Set<Integer> does = new HashSet<>();
            for (List<List<Integer>> one : ring) {
                for (Map.Entry<Integer, List<List<Integer>>> e : own.get(one).entrySet()) {
                    can.add(e.getKey());
                    if (ring.contains(e.getValue())) {
                        does.add(e.getKey());
                    }
                }
            }
            if (does.containsAll(can)) {
                inRings.add(view);
            }
        }
        Set<List<List<Integer>>> result = new HashSet<>(inRings);
        for (List<List<Integer>> view : edges.keySet()) {
            for (List<List<Integer>> to : after.get(view)) {
                if (inRings.contains(to)) {
                    result.add(view);
                }
            }
        }
        return result;
    }

    /** Just so many moves behind the world, as numbers of folded worlds. */
    Set<Integer> behind(List<List<Integer>> from, int n) {
        Set<List<List<Integer>>> here = new HashSet<>();
        here.add(from);
        for (int i = 0; i < n; i++) {
            Set<List<List<Integer>>> there = new HashSet<>();
            for (List<List<Integer>> w : here) {
                for (Move m : moves.get(w)) {
                    there.add(m.to);
                }
            }
            here = there;
        }
        Set<Integer> result = new HashSet<>();
        for (List<List<Integer>> w : here) {
            result.add(numberOf(w));
        }
        return result;
    }

    int inState(int world, int state) {
        int many = 0;
        for (int a = 1; a <= agents; a++) {
            many += folded.get(world).get(a).get(0) == state ? 1 : 0;
        }
        return many;
    }

    String spelled(List<List<Integer>> w) {
        StringBuilder text = new StringBuilder(w.get(0).get(0) == -1 ? "-" : homes.get(w.get(0).get(0)));
        for (int a = 1; a <= agents; a++) {
            List<Integer> row = w.get(a);
            text.append(' ').append(states.get(row.get(0)));
            if (row.get(1) != -1) {
                text.append('<').append(messages.get(row.get(1)));
                text.append(row.get(2) != -1 ? "," + messages.get(row.get(2)) : "").append('>');
            }
            text.append(row.get(3) != -1 ? "!" + messages.get(row.get(3)) : "");
        }
        return text.toString();
    }

    int[] image(List<List<Integer>> w) {
        List<Integer> bytes = new ArrayList<>();
        for (List<Integer> row : w) {
            for (int v : row) {
                bytes.add(v == -1 ? 255 : v);
            }
        }
        int c = 193;
        for (int b : bytes) {
            c = (5 * c + b) % 251;
        }
        bytes.add(c);
        return bytes.stream().mapToInt(Integer::intValue).toArray();
    }

    Naive without(int rule) {
        Naive n = new Naive();
        n.agents = agents;
        n.states = states;
        n.homes = homes;
        n.messages = messages;
        n.loose = loose;
        n.rules = rules;
        n.nevers = nevers;
        n.wanting = wanting;
        n.wanted = wanted;
        n.skipped = rule;
        n.explore();
        return n;
    }

    /** Tells the table as a text, the statements behind the first one in an order of the seed where that is free. */
    String told(Random random) {
        List<String> list = new ArrayList<>();
        if (!homes.isEmpty()) {
            list.add("home " + String.join(",", homes));
        }
        if (!messages.isEmpty()) {
            list.add("messages " + String.join(" , ", messages));
        }
        if (loose || random.nextBoolean()) {
            if (random.nextInt(4) == 0) {
                list.add(loose ? "order kept" : "order loose");
            }
            list.add(loose ? "order loose" : "order kept");
        }
        List<String> rest = new ArrayList<>();
        for (List<int[]> never : nevers) {
            List<String> counts = new ArrayList<>();
            for (int[] c : never) {
                counts.add(c[0] + " " + states.get(c[1]));
            }
            rest.add("never " + String.join(" and ", counts));
        }
        if (wanting != -1) {
            rest.add("wants " + states.get(wanting) + "\n" + states.get(wanted));
        }
        Collections.shuffle(rest, random);
        List<String> rows = new ArrayList<>();
        for (Rule r : rules) {
            rows.add(toldRule(r));
        }
        for (String s : rest) {
            rows.add(random.nextInt(rows.size() + 1), s);
        }
        StringBuilder text = new StringBuilder("agents " + agents + " states " + String.join(", ", states) + ";");
        list.addAll(rows);
        for (String s : list) {
            text.append(random.nextInt(3) == 0 ? "\n" : "").append(s).append(random.nextInt(5) == 0 ? " ;" : ";");
        }
        return text.toString();
    }

    private String toldRule(Rule r) {
        if (!r.at) {
            return "on " + states.get(r.from) + (r.with != -1 ? " with " + messages.get(r.with) : "") + " to "
                    + states.get(r.to) + (r.gives != -1 ? " sends " + messages.get(r.gives) : "");
        }
        return "at " + homes.get(r.from) + " with " + messages.get(r.with) + " to " + homes.get(r.to)
                + (r.gives != -1 ? " replies " + messages.get(r.gives) : "")
                + (r.tells != -1 ? " tells " + messages.get(r.tells) : "")
                + (r.state != -1 ? (r.some ? " some " : " none ") + states.get(r.state) : "");
    }

    /** A table of chance; the names are of unlike lengths, and not in the order of the letters. */
    static Naive random(Random random) {
        Naive n = new Naive();
        n.agents = 2 + (random.nextInt(3) == 0 ? 2 : random.nextInt(2));
        List<String> names = new ArrayList<>(Arrays.asList("i", "w", "h", "wait", "busy", "req", "ok", "rel", "zz",
                "quiets", "z", "a", "abcdef", "or", "agent", "son", "too", "inv", "ack", "no"));
        Collections.shuffle(names, random);
        for (int k = 1 + random.nextInt(4); k > 0; k--) {
            n.states.add(names.remove(0));
        }
        for (int k = random.nextInt(4); k > 0; k--) {
            n.homes.add(names.remove(0));
        }
        for (int k = random.nextInt(5); k > 0; k--) {
            n.messages.add(names.remove(0));
        }
        n.loose = random.nextInt(3) == 0;
        int rules = random.nextInt(11);
        for (int k = 0; k < rules; k++) {
            n.rules.add(n.randomRule(random));
        }
        for (int k = random.nextInt(4); k > 0; k--) {
            List<int[]> counts = new ArrayList<>();
            for (int c = 1 + random.nextInt(3); c > 0; c--) {
                counts.add(new int[] {1 + random.nextInt(4), random.nextInt(n.states.size())});
            }
            n.nevers.add(counts);
        }
        if (random.nextInt(5) > 0) {
            n.wanting = random.nextInt(n.states.size());
            n.wanted = random.nextInt(n.states.size());
        }
        return n;
    }

    private Rule randomRule(Random random) {
        Rule r = new Rule();
        int s = states.size();
        int h = homes.size();
        int m = messages.size();
        r.at = h > 0 && m > 0 && random.nextInt(5) < 2;
        if (r.at) {
            r.from = random.nextInt(h);
            r.with = random.nextInt(m);
            r.to = random.nextInt(h);
            r.gives = random.nextInt(3) > 0 ? random.nextInt(m) : -1;
            r.tells = random.nextInt(3) == 0 ? random.nextInt(m) : -1;
            r.state = random.nextInt(3) == 0 ? random.nextInt(s) : -1;
            r.some = r.state != -1 && random.nextBoolean();
        } else {
            r.from = random.nextInt(s);
            r.with = m > 0 && random.nextInt(3) == 0 ? random.nextInt(m) : -1;
            r.to = random.nextInt(s);
            r.gives = m > 0 && random.nextInt(2) == 0 ? random.nextInt(m) : -1;
        }
        return r;
    }
}
