import java.util.ArrayList;
import java.util.Arrays;
import java.util.Collections;
import java.util.List;
import java.util.Random;
import java.util.Set;

/** Tables of chance (always the same ones): all that the class answers against the plainest reading of the document. */
public final class NaiveTest {
    private static final Due due = new Due();
    private static int larger = 0;
    private static int met = 0;

    public static void main(String[] args) {
        int tables = args.length > 0 ? Integer.parseInt(args[0]) : 260;
        int seed = args.length > 1 ? Integer.parseInt(args[1]) : 7;
        Random random = new Random(seed);
        ProtocolAtlas atlas = new ProtocolAtlas();
        for (int k = 0; k < tables && due.wrongOnes() == 0; k++) {
            Naive naive = Naive.random(random);
            String text = naive.told(random);
            due.at("table " + k + " " + text.replace('\n', ' '));
            // An object goes through some tables, so that nothing may be left of those ahead.
            atlas = k % 5 == 0 ? new ProtocolAtlas() : atlas;
            int folded = atlas.has(5);
            atlas.seed(1);
            Due.feed(atlas, text);
            atlas.table();
            if (!naive.explore()) {
                larger++;
                due.is("fault(0)", atlas.fault(0), 6);
                due.is("fault(1)", atlas.fault(1), text.length());
                due.is("has(5)", atlas.has(5), folded);
                continue;
            }
            due.is("fault(0)", atlas.fault(0), 0);
            due.is("fault(1)", atlas.fault(1), -1);
            met += naive.folded.size();
            compareNumbers(atlas, naive);
            compareRules(atlas, naive);
            compareWorlds(atlas, naive);
            compareParts(atlas, naive);
            compareWanting(atlas, naive);
            compareTexts(atlas, naive);
            compareWalk(atlas, naive, random);
        }
        System.out.println(tables + " tables, " + met + " folded worlds, " + larger + " tables too large");
        due.finish();
    }

    private static void compareNumbers(ProtocolAtlas atlas, Naive naive) {
        due.is("has(0)", atlas.has(0), naive.agents);
        due.is("has(1)", atlas.has(1), naive.states.size());
        due.is("has(2)", atlas.has(2), naive.homes.size());
        due.is("has(3)", atlas.has(3), naive.messages.size());
        due.is("has(4)", atlas.has(4), naive.rules.size());
        due.is("has(5)", atlas.has(5), naive.folded.size());
        due.is("has(6)", atlas.has(6), naive.moves.size());
        due.is("has(7)", atlas.has(7), Collections.max(naive.depth.values()));
        int moves = 0;
        int bad = 0;
        int stuck = 0;
        for (List<List<Integer>> w : naive.moves.keySet()) {
            moves += naive.moves.get(w).size();
            bad += naive.bad(w) ? 1 : 0;
            stuck += naive.moves.get(w).isEmpty() ? 1 : 0;
        }
        due.is("has(8)", atlas.has(8), moves);
        due.is("has(9)", atlas.has(9), bad);
        due.is("has(10)", atlas.has(10), stuck);
        due.is("has(12)", atlas.has(12), 0);
        due.is("has(13)", atlas.has(13), 0);
        compareNames(atlas, 0, naive.states);
        compareNames(atlas, 1, naive.homes);
        compareNames(atlas, 2, naive.messages);
    }

    private static void compareNames(ProtocolAtlas atlas, int kind, List<String> names) {
        for (int i = 0; i < names.size(); i++) {
            for (int k = 0; k < 6; k++) {
                int letter = k < names.get(i).length() ? names.get(i).charAt(k) - 'a' + 1 : 0;
                due.is("letter(" + kind + ", " + i + ", " + k + ")", atlas.letter(kind, i, k), letter);
            }
        }
        due.is("letter behind", atlas.letter(kind, names.size(), 0), -1);
    }

    private static void compareRules(ProtocolAtlas atlas, Naive naive) {
        int best = -1;
        int[] bestOnes = null;
        for (int r = 0; r < naive.rules.size(); r++) {
            Naive.Rule rule = naive.rules.get(r);
            int[] told = {rule.at ? 1 : 0, rule.from, rule.with, rule.to, rule.gives, rule.tells, rule.state,
                rule.some ? 1 : 0};
            for (int what = 0; what < 8; what++) {
                due.is("rule(" + r + ", " + what + ")", atlas.rule(r, what), told[what]);
            }
            int uses = 0;
            for (List<Naive.Move> list : naive.moves.values()) {
                for (Naive.Move m : list) {
                    uses += m.rule == r ? 1 : 0;
                }
            }
            due.is("uses(" + r + ")", atlas.uses(r), uses);
            Naive less = naive.without(r);
            int bad = 0;
            int stuck = 0;
            for (List<List<Integer>> w : less.moves.keySet()) {
                bad += less.bad(w) ? 1 : 0;
                stuck += less.moves.get(w).isEmpty() ? 1 : 0;
            }
            int[] figures = {less.folded.size(), less.moves.size(), bad, stuck, less.starvingInAll()};
            for (int what = 0; what < 5; what++) {
                due.is("without(" + r + ", " + what + ")", atlas.without(r, what), figures[what]);
            }
            int[] ones = {bad, stuck, figures[4]};
            if (best == -1 || Arrays.compare(ones, bestOnes) < 0) {
                best = r;
                bestOnes = ones;
            }
        }
        due.is("mend()", atlas.mend(), best);
        due.is("rule behind", atlas.rule(naive.rules.size(), 0), -1);
        due.is("uses behind", atlas.uses(naive.rules.size()), -1);
        due.is("without behind", atlas.without(naive.rules.size(), 0), -1);
    }

    private static void compareWorlds(ProtocolAtlas atlas, Naive naive) {
        int firstBad = -1;
        int firstStuck = -1;
        for (int k = 0; k < naive.folded.size(); k++) {
            List<List<Integer>> w = naive.folded.get(k);
            boolean bad = naive.bad(w);
            int many = naive.moves.get(w).size();
            firstBad = bad && firstBad == -1 ? k : firstBad;
            firstStuck = many == 0 && firstStuck == -1 ? k : firstStuck;
            String of = "world(" + k + ", ";
            due.is(of + "0)", atlas.world(k, 0), naive.depth.get(w));
            due.is(of + "1)", atlas.world(k, 1), naive.standsFor(k));
            due.is(of + "2)", atlas.world(k, 2), w.get(0).get(0));
            due.is(of + "3)", atlas.world(k, 3), bad ? 1 : 0);
            due.is(of + "4)", atlas.world(k, 4), many == 0 ? 1 : 0);
            due.is(of + "5)", atlas.world(k, 5), many);
            for (int a = 0; a < naive.agents; a++) {
                for (int what = 0; what < 4; what++) {
                    due.is("agent(" + k + ", " + a + ", " + what + ")", atlas.agent(k, a, what),
                            w.get(a + 1).get(what));
                }
                for (int r = 0; r < naive.rules.size(); r++) {
                    List<List<Integer>> to = naive.go(w, r, a);
                    due.is("leads(" + k + ", " + r + ", " + a + ")", atlas.leads(k, r, a),
                            to == null ? -1 : naive.numberOf(to));
                }
            }
            compareWay(atlas, k, naive.wayTo(k));
        }
        due.is("first(0)", atlas.first(0), firstBad);
        due.is("first(1)", atlas.first(1), firstStuck);
        due.is("world behind", atlas.world(naive.folded.size(), 0), -1);
        due.is("agent behind", atlas.agent(0, naive.agents, 0), -1);
    }

    private static void compareWay(ProtocolAtlas atlas, int world, List<Integer> way) {
        due.is("way(" + world + ", -1, 0)", atlas.way(world, -1, 0), way.size() / 2);
        for (int k = 0; k < way.size(); k++) {
            due.is("way(" + world + ", " + k / 2 + ", " + k % 2 + ")", atlas.way(world, k / 2, k % 2), way.get(k));
        }
        due.is("way(" + world + ", behind, 0)", atlas.way(world, way.size() / 2, 0), -1);
    }

    private static void compareParts(ProtocolAtlas atlas, Naive naive) {
        List<Set<Integer>> after = naive.closures();
        int parts = 0;
        int returning = 0;
        for (int k = 0; k < naive.folded.size(); k++) {
            int first = k;
            int size = 0;
            boolean ends = true;
            for (int other : after.get(k)) {
                boolean joined = after.get(other).contains(k);
                first = joined ? Math.min(first, other) : first;
                size += joined ? 1 : 0;
                ends = ends && joined;
            }
            if (first == k) {
                due.is("part(" + parts + ", 0)", atlas.part(parts, 0), size);
                due.is("part(" + parts + ", 1)", atlas.part(parts, 1), k);
                due.is("part(" + parts + ", 2)", atlas.part(parts, 2), ends ? 1 : 0);
                due.is("world(" + k + ", 6)", atlas.world(k, 6), parts);
                parts++;
            } else {
                due.is("world(" + k + ", 6)", atlas.world(k, 6), atlas.world(first, 6));
            }
            returning += after.get(k).contains(0) ? naive.standsFor(k) : 0;
        }
        due.is("has(11)", atlas.has(11), parts);
        due.is("part behind", atlas.part(parts, 0), -1);
        due.is("returns()", atlas.returns(), returning);
    }

    private static void compareWanting(ProtocolAtlas atlas, Naive naive) {
        Set<List<List<Integer>>> views = naive.wanting == -1 ? Set.of() : naive.leftOutViews();
        int firstStarving = -1;
        int firstLeft = -1;
        int left = 0;
        for (int a = 0; a < naive.agents; a++) {
            Set<List<List<Integer>>> good = naive.wanting == -1 ? Set.of() : naive.hoping(a);
            for (int k = 0; k < naive.folded.size(); k++) {
                List<List<Integer>> w = naive.folded.get(k);
                boolean starves = naive.wants(w, a) && !good.contains(w);
                boolean isLeft = naive.wants(w, a) && views.contains(naive.seenBy(w, a));
                due.is("agent(" + k + ", " + a + ", 4)", atlas.agent(k, a, 4), starves ? 1 : 0);
                due.is("agent(" + k + ", " + a + ", 5)", atlas.agent(k, a, 5), isLeft ? 1 : 0);
                firstStarving = starves && (firstStarving == -1 || k < firstStarving) ? k : firstStarving;
                firstLeft = isLeft && (firstLeft == -1 || k < firstLeft) ? k : firstLeft;
            }
            for (List<List<Integer>> w : naive.moves.keySet()) {
                left += naive.wants(w, a) && views.contains(naive.seenBy(w, a)) ? 1 : 0;
            }
        }
        due.is("first(2)", atlas.first(2), firstStarving);
        due.is("first(3)", atlas.first(3), firstLeft);
        due.is("starving(0)", atlas.starving(0), naive.starvingInAll());
        due.is("starving(1)", atlas.starving(1), left);
    }

    private static void compareTexts(ProtocolAtlas atlas, Naive naive) {
        for (int k = 0; k < naive.folded.size(); k++) {
            String text = naive.spelled(naive.folded.get(k));
            due.is("spell(" + k + ")", atlas.spell(k), text.length());
            due.is("octets of " + text, Due.textOf(Due.written(atlas, text.length())).equals(text), true);
            due.is("octet behind", atlas.octet(text.length()), -1);
            Due.feed(atlas, text);
            due.is("which() " + text, atlas.which(), k);
        }
    }

    private static void compareWalk(ProtocolAtlas atlas, Naive naive, Random random) {
        List<List<Integer>> walk = naive.firstWorld();
        List<List<List<Integer>>> undone = new ArrayList<>();
        long seed = 1;
        int refused = atlas.status(2);
        for (int i = 0; i < 60; i++) {
            int act = random.nextInt(6);
            if (act == 0) {
                int to = random.nextInt(naive.folded.size());
                undone.add(walk);
                walk = naive.folded.get(to);
                due.is("jump(" + to + ")", atlas.jump(to), true);
            } else if (act == 1) {
                int n = 1 + random.nextInt(5);
                undone.add(walk);
                int made = 0;
                while (made < n && !naive.moves.get(walk).isEmpty()) {
                    seed = (1103515245L * seed + 12345L) % (1L << 31);
                    List<Naive.Move> list = naive.moves.get(walk);
                    walk = list.get((int) (seed / 64 % list.size())).to;
                    made++;
                }
                due.is("chance(" + n + ")", atlas.chance(n), made);
            } else if (act == 2) {
                due.is("undo()", atlas.undo(), !undone.isEmpty());
                walk = undone.isEmpty() ? walk : undone.remove(undone.size() - 1);
            } else if (act == 3) {
                seed = random.nextInt(Integer.MAX_VALUE);
                due.is("seed(" + seed + ")", atlas.seed((int) seed), true);
            } else if (!naive.rules.isEmpty()) {
                int r = random.nextInt(naive.rules.size());
                int a = random.nextInt(naive.agents);
                List<List<Integer>> to = naive.go(walk, r, a);
                due.is("can(" + r + ", " + a + ")", atlas.can(r, a), to == null ? 0 : 1);
                due.is("move(" + r + ", " + a + ")", atlas.move(r, a), to == null ? -1 : naive.numberOf(to));
                refused += to == null ? 1 : 0;
                if (to != null) {
                    undone.add(walk);
                    walk = to;
                }
            }
            if (undone.size() > 20) {
                undone.remove(0);
            }
            due.is("has(12)", atlas.has(12), undone.size());
            compareNow(atlas, naive, walk);
            if (random.nextInt(4) == 0) {
                compareImage(atlas, naive, walk);
            }
            if (random.nextInt(3) == 0) {
                compareSight(atlas, naive, walk, random);
            }
        }
        due.is("status(2)", atlas.status(2), refused);
    }

    private static void compareNow(ProtocolAtlas atlas, Naive naive, List<List<Integer>> walk) {
        due.is("now(-1, 0)", atlas.now(-1, 0), walk.get(0).get(0));
        due.is("now(-1, 1)", atlas.now(-1, 1), naive.numberOf(walk));
        due.is("now(-1, 2)", atlas.now(-1, 2), naive.bad(walk) ? 1 : 0);
        for (int a = 0; a < naive.agents; a++) {
            for (int what = 0; what < 4; what++) {
                due.is("now(" + a + ", " + what + ")", atlas.now(a, what), walk.get(a + 1).get(what));
            }
        }
    }

    private static void compareImage(ProtocolAtlas atlas, Naive naive, List<List<Integer>> walk) {
        int[] bytes = naive.image(walk);
        due.is("image()", atlas.image(), bytes.length);
        due.is("octets of the image", Arrays.equals(Due.written(atlas, bytes.length), bytes), true);
        ProtocolAtlas other = atlas;
        int acts = atlas.has(12);
        int[] spoilt = bytes.clone();
        spoilt[bytes.length - 1] = (spoilt[bytes.length - 1] + 1) % 251;
        Due.feed(other, spoilt);
        due.is("on() spoilt", other.on(), false);
        due.is("acts stay", other.has(12), acts);
    }

    private static void compareSight(ProtocolAtlas atlas, Naive naive, List<List<Integer>> walk, Random random) {
        int rows = 1 + random.nextInt(random.nextInt(3) == 0 ? 6 : 1);
        int since = random.nextInt(4) == 0 ? random.nextInt(7) : random.nextInt(3);
        int[] bytes = new int[2 * rows];
        for (int k = 0; k < rows; k++) {
            bytes[2 * k] = random.nextInt(naive.states.size());
            bytes[2 * k + 1] = random.nextInt(naive.agents + 1);
        }
        Due.feed(atlas, bytes);
        due.is("see(" + since + ")", atlas.see(since), rows);
        due.is("has(13)", atlas.has(13), rows);
        List<Integer> could = new ArrayList<>(naive.behind(walk, since));
        Collections.sort(could);
        for (int k = 0; k < rows; k++) {
            int state = bytes[2 * k];
            int many = bytes[2 * k + 1];
            could.removeIf(w -> naive.inState(w, state) != many);
        }
        due.is("could(-1)", atlas.could(-1), could.size());
        for (int k = 0; k < could.size(); k++) {
            due.is("could(" + k + ")", atlas.could(k), could.get(k));
        }
        due.is("could behind", atlas.could(could.size()), -1);
        int telling = -1;
        int fewest = -1;
        for (int s = 0; s < naive.states.size() && !could.isEmpty(); s++) {
            int[] tally = new int[5];
            for (int w : could) {
                tally[naive.inState(w, s)]++;
            }
            int most = Arrays.stream(tally).max().getAsInt();
            if (telling == -1 || most < fewest) {
                telling = s;
                fewest = most;
            }
        }
        due.is("tells(0)", atlas.tells(0), telling);
        due.is("tells(1)", atlas.tells(1), fewest);
    }
}
