import java.util.ArrayDeque;
import java.util.ArrayList;
import java.util.Arrays;
import java.util.Comparator;
import java.util.Deque;
import java.util.HashSet;
import java.util.List;
import java.util.NoSuchElementException;
import java.util.Set;
import java.util.TreeSet;
import java.util.function.Predicate;
import java.util.regex.Matcher;
import java.util.regex.Pattern;
import java.util.stream.Collectors;
import java.util.stream.IntStream;

/** The document once more, written for plainness with the whole Java library: what ModelRuns compares the class with. */
final class Model {
    static final class P implements Cloneable {
        int supervisor = -1, capacity, group, budget, heir = -1, state, code = -1, adopted, replacement = -1;
        boolean doomed;
        Set<Integer> refused = new TreeSet<>();
        int[] wills = {-1, -1, -1, -1, -1, -1, -1, -1};

        P(int supervisor, int capacity, int group, int budget) {
            this.supervisor = supervisor;
            this.capacity = capacity;
            this.group = group;
            this.budget = budget;
        }

        P twin() {
            try {
                P p = (P) clone();
                p.refused = new TreeSet<>(refused);
                p.wills = wills.clone();
                return p;
            } catch (CloneNotSupportedException e) {
                throw new AssertionError(e);
            }
        }
    }

    static final class World {
        List<P> all = new ArrayList<>(List.of(new P(-1, 9, 0, 0)));
        int[] holder = new int[8];
        List<String> rules = List.of("near", "group", "room");
        int deep = 20;
        List<Integer> exits = new ArrayList<>();
        int adoptions, byRoot, replacements;

        World twin() {
            World w = new World();
            w.all = all.stream().map(P::twin).collect(Collectors.toCollection(ArrayList::new));
            w.holder = holder.clone();
            w.rules = rules;
            w.deep = deep;
            w.exits = new ArrayList<>(exits);
            w.adoptions = adoptions;
            w.byRoot = byRoot;
            w.replacements = replacements;
            return w;
        }

        boolean running(int p) {
            return p >= 0 && p < all.size() && all.get(p).state == 0;
        }

        List<Integer> where(Predicate<Integer> test) {
            return IntStream.range(0, all.size()).boxed().filter(test).collect(Collectors.toList());
        }

        List<Integer> runningOnes() {
            return where(this::running);
        }

        List<Integer> children(int p) {
            return where(c -> running(c) && all.get(c).supervisor == p);
        }

        List<Integer> zombies(int p) {
            return exits.stream().filter(z -> all.get(z).state == 1 && all.get(z).supervisor == p)
                    .collect(Collectors.toList());
        }

        List<Integer> above(int p) {
            List<Integer> chain = new ArrayList<>();
            for (int s = all.get(p).supervisor; s != -1; s = all.get(s).supervisor) chain.add(s);
            return chain;
        }

        int depth(int p) {
            return above(p).size();
        }

        List<Integer> below(int p) {
            return where(q -> running(q) && above(q).contains(p));
        }

        int room(int p) {
            return running(p) ? Math.max(0, all.get(p).capacity - children(p).size()) : 0;
        }

        boolean can(int p, int orphan) {
            P a = all.get(p);
            return a.state == 0 && p != 0 && p != orphan && !above(p).contains(orphan) && !a.doomed && room(p) > 0
                    && !a.refused.contains(all.get(orphan).group) && depth(p) < deep;
        }

        int adopter(int orphan) {
            int former = all.get(orphan).supervisor;
            List<Integer> able = where(p -> p != former && can(p, orphan));
            Comparator<Integer> mostRoom = Comparator.<Integer>comparingInt(this::room).reversed()
                    .thenComparingInt(p -> p);
            for (String rule : rules) {
                List<Integer> found;
                switch (rule) {
                    case "near": found = above(former).stream().filter(able::contains).collect(Collectors.toList()); break;
                    case "group": found = able.stream().filter(p -> all.get(p).group == all.get(orphan).group)
                            .sorted(mostRoom).collect(Collectors.toList()); break;
                    case "room": found = able.stream().sorted(mostRoom).collect(Collectors.toList()); break;
                    case "kin": found = former == 0 ? List.of() : children(all.get(former).supervisor).stream()
                            .filter(able::contains).collect(Collectors.toList()); break;
                    default: found = able;
                }
                if (!found.isEmpty()) return found.get(0);
            }
            return 0;
        }

        void adopt(int orphan, int by) {
            all.get(orphan).supervisor = by;
            all.get(orphan).adopted++;
            adoptions++;
            if (by == 0) byRoot++;
        }

        boolean inherits(int p) {
            return running(p) && !all.get(p).doomed;
        }

        int heirNow(int p) {
            if (inherits(all.get(p).heir)) return all.get(p).heir;
            for (int c : children(p)) if (inherits(c)) return c;
            return all.get(p).supervisor;
        }

        int exit(int p, int code) {
            int before = byRoot;
            P me = all.get(p);
            int s = me.supervisor;
            me.state = 1;
            me.code = code;
            exits.add(p);
            P boss = all.get(s);
            int r = -1;
            if (code != 0 && !boss.doomed && boss.budget > 0 && all.size() < 40) {
                boss.budget--;
                r = all.size();
                all.add(new P(s, me.capacity, me.group, me.budget));
                me.replacement = r;
                replacements++;
            }
            for (int d = 0; d < 8; d++) {
                if (holder[d] != p) continue;
                holder[d] = r != -1 ? r : inherits(me.wills[d]) ? me.wills[d] : heirNow(p);
            }
            for (int o : children(p)) adopt(o, r != -1 && room(r) > 0 ? r : adopter(o));
            for (int z : zombies(p)) all.get(z).supervisor = s;
            if (s == 0) readAll(0);
            return byRoot - before;
        }

        int readAll(int p) {
            int sum = 0;
            for (int z : zombies(p)) {
                all.get(z).state = 2;
                sum += all.get(z).code;
            }
            return sum;
        }

        int kill(int group, int code) {
            List<Integer> doomed = where(p -> p != 0 && running(p) && all.get(p).group == group);
            doomed.forEach(p -> all.get(p).doomed = true);
            doomed.forEach(p -> exit(p, code));
            all.forEach(p -> p.doomed = false);
            return doomed.size();
        }

        int prune(int p, int code) {
            int n = 0;
            for (; !below(p).isEmpty(); n++) {
                exit(below(p).stream().max(Comparator.<Integer>comparingInt(this::depth).thenComparingInt(q -> q)).get(), code);
            }
            return n;
        }

        int meet(int p, int q) {
            List<Integer> mine = above(p);
            mine.add(0, p);
            List<Integer> theirs = above(q);
            theirs.add(0, q);
            return mine.stream().filter(theirs::contains).findFirst().get();
        }

        void walk(int p, List<Integer> order) {
            order.add(p);
            children(p).forEach(c -> walk(c, order));
        }

        String branch(int p) {
            String inner = children(p).stream().map(this::branch).collect(Collectors.joining(" "));
            return p + (inner.isEmpty() ? "" : "(" + inner + ")");
        }

        int height() {
            return runningOnes().stream().mapToInt(this::depth).max().getAsInt();
        }
    }

    World w = new World();
    World saved = null;
    Deque<World> past = new ArrayDeque<>();
    String input = "";
    String output = "";
    int error = 0, offset = -1;

    static final class Wrong extends Exception {
        private static final long serialVersionUID = 1;

        final int code, at;

        Wrong(int code, int at) {
            this.code = code;
            this.at = at;
        }
    }

    /** Reads a setup by a list of tokens. */
    static final class Parser {
        private static final Pattern TOKEN = Pattern.compile("[a-z]+|[0-9]+|.", Pattern.DOTALL);
        final List<String> tokens = new ArrayList<>();
        final List<Integer> starts = new ArrayList<>();
        final Set<String> once = new HashSet<>();
        final World w = new World();
        int next = 0;

        World parse(String text) throws Wrong {
            Matcher m = TOKEN.matcher(text);
            while (m.find()) {
                if (m.group().equals(" ") || m.group().equals("\n")) continue;
                tokens.add(m.group());
                starts.add(m.start());
            }
            tokens.add("");
            starts.add(text.length());
            while (!tokens.get(next).isEmpty()) statement();
            return w;
        }

        Wrong wrong(int code) {
            return new Wrong(code, starts.get(next));
        }

        int number(int low, int high) throws Wrong {
            if (!tokens.get(next).matches("[0-9]{1,2}")) throw wrong(1);
            int n = Integer.parseInt(tokens.get(next));
            if (n < low || n > high) throw wrong(2);
            return n;
        }

        void statement() throws Wrong {
            String word = tokens.get(next);
            if (Set.of("order", "deep", "root").contains(word) && !once.add(word)) throw wrong(3);
            if (word.equals("process") && w.all.size() == 25) throw wrong(4);
            int told = w.all.size() - 1;
            switch (word) {
                case "order": {
                    List<String> rules = new ArrayList<>();
                    for (next++; Set.of("near", "group", "room", "kin", "old").contains(tokens.get(next)); next++) {
                        if (rules.contains(tokens.get(next))) throw wrong(3);
                        rules.add(tokens.get(next));
                    }
                    w.rules = rules;
                    next--;
                    break;
                }
                case "deep": next++; w.deep = number(1, 20); break;
                case "root": next++; w.all.get(0).capacity = number(0, 9); next++; w.all.get(0).budget = number(0, 9); break;
                case "process": {
                    next++;
                    int s = number(0, told);
                    if (w.room(s) == 0) throw wrong(2);
                    int[] n = new int[3];
                    for (int i = 0; i < 3; i++) {
                        next++;
                        n[i] = number(0, 9);
                    }
                    w.all.add(new P(s, n[0], n[1], n[2]));
                    break;
                }
                case "heir": {
                    next++;
                    int p = number(1, told);
                    if (w.all.get(p).heir != -1) throw wrong(3);
                    next++;
                    int h = number(0, told);
                    if (h == p) throw wrong(2);
                    w.all.get(p).heir = h;
                    break;
                }
                case "duty": {
                    next++;
                    int d = number(0, 7);
                    next++;
                    w.holder[d] = number(0, told);
                    break;
                }
                case "refuse": {
                    next++;
                    int p = number(1, told);
                    next++;
                    if (!w.all.get(p).refused.add(number(0, 9))) throw wrong(3);
                    break;
                }
                case "will": {
                    next++;
                    int p = number(1, told);
                    next++;
                    int d = number(0, 7);
                    if (w.all.get(p).wills[d] != -1) throw wrong(3);
                    next++;
                    int t = number(0, told);
                    if (t == p) throw wrong(2);
                    w.all.get(p).wills[d] = t;
                    break;
                }
                default: throw wrong(1);
            }
            next++;
            if (!tokens.get(next).equals(";")) throw wrong(1);
            next++;
        }
    }

    private void named(int... numbers) {
        for (int n : numbers) if (n < 0 || n >= w.all.size()) throw new IndexOutOfBoundsException();
    }

    private void range(int high, int... values) {
        for (int v : values) if (v < 0 || v > high) throw new IllegalArgumentException();
    }

    private void state(boolean fits) {
        if (!fits) throw new IllegalStateException();
    }

    private void change() {
        past.addLast(w.twin());
        if (past.size() > 10) past.removeFirst();
    }

    private boolean mortal(int p) {
        return p != 0 && w.running(p);
    }

    private boolean there(int p) {
        return w.all.get(p).state != 2;
    }

    private static int mask(java.util.stream.IntStream bits) {
        return bits.map(b -> 1 << b).reduce(0, (a, b) -> a | b);
    }

    private int exitOf(World twin, int p, int code) {
        return twin.exit(p, code);
    }

    /** Answers a call by its name, as a long (a boolean as 1 or 0, a double or float by its bits). */
    long call(String name, int... a) {
        switch (name) {
            case "appendInput": {
                if (input.length() + 20 > 500) return -1;
                for (int x : a) for (int k = 24; k >= 0; k -= 8) input += (char) (x >>> k & 255);
                return input.length();
            }
            case "truncateInput":
                if (a[0] < 0 || a[0] > input.length()) return 0;
                input = input.substring(0, a[0]);
                return 1;
            case "loadTree": {
                String text = input;
                input = "";
                try {
                    w = new Parser().parse(text);
                    past.clear();
                    saved = null;
                    output = "";
                    error = 0;
                    offset = -1;
                    return w.all.size();
                } catch (Wrong e) {
                    error = e.code;
                    offset = e.at;
                    return -1;
                }
            }
            case "errorCode": return error;
            case "errorOffset": return offset;
            case "count": return count(a[0]);
            case "process": named(a[0]); return property(a[0], a[1]);
            case "holder": range(7, a[0]); return w.holder[a[0]];
            case "rule": return a[0] >= 0 && a[0] < w.rules.size()
                    ? List.of("near", "group", "room", "kin", "old").indexOf(w.rules.get(a[0])) : -1;
            case "depth": named(a[0]); state(there(a[0])); return w.depth(a[0]);
            case "isAbove": named(a); return there(a[0]) && there(a[1]) && w.above(a[1]).contains(a[0]) ? 1 : 0;
            case "meet": named(a); state(there(a[0]) && there(a[1])); return w.meet(a[0], a[1]);
            case "below": named(a[0]); return w.running(a[0]) ? w.below(a[0]).size() : 0;
            case "walked": {
                List<Integer> order = new ArrayList<>();
                w.walk(0, order);
                if (a[0] < 0 || a[0] >= order.size()) throw new NoSuchElementException();
                return order.get(a[0]);
            }
            case "atDepth": return w.runningOnes().stream().filter(p -> w.depth(p) == a[0]).count();
            case "height": return w.height();
            case "spawn":
                named(a[0]); range(9, a[1], a[2], a[3]); state(w.room(a[0]) > 0 && w.all.size() < 40);
                change();
                w.all.add(new P(a[0], a[1], a[2], a[3]));
                return w.all.size() - 1;
            case "exit": exitChecks(a[0], a[1]); change(); return w.exit(a[0], a[1]);
            case "kill": range(9, a[0]); range(255, a[1]); change(); return w.kill(a[0], a[1]);
            case "read": {
                named(a[0]); state(w.running(a[0]));
                if (w.zombies(a[0]).isEmpty()) throw new NoSuchElementException();
                change();
                int z = w.zombies(a[0]).get(0);
                w.all.get(z).state = 2;
                return 1000 * z + w.all.get(z).code;
            }
            case "refuse": {
                named(a[0]); range(9, a[1]); state(mortal(a[0]));
                change();
                w.all.get(a[0]).refused.add(a[1]);
                List<Integer> lost = w.children(a[0]);
                lost.removeIf(c -> w.all.get(c).group != a[1]);
                lost.forEach(c -> w.adopt(c, w.adopter(c)));
                return lost.size();
            }
            case "accept": named(a[0]); range(9, a[1]); state(w.running(a[0])); change();
                return w.all.get(a[0]).refused.remove(a[1]) ? 1 : 0;
            case "move": {
                named(a);
                state(mortal(a[0]) && w.running(a[1]) && a[0] != a[1] && !w.above(a[1]).contains(a[0])
                        && w.room(a[1]) > 0 && !w.all.get(a[1]).refused.contains(w.all.get(a[0]).group));
                change();
                int former = w.all.get(a[0]).supervisor;
                w.all.get(a[0]).supervisor = a[1];
                return former;
            }
            case "setCapacity": {
                named(a[0]); range(9, a[1]); state(w.running(a[0])); change();
                int old = w.all.get(a[0]).capacity;
                w.all.get(a[0]).capacity = a[1];
                return old;
            }
            case "setBudget": {
                named(a[0]); range(9, a[1]); state(w.running(a[0])); change();
                int old = w.all.get(a[0]).budget;
                w.all.get(a[0]).budget = a[1];
                return old;
            }
            case "setHeir": {
                named(a[0]);
                if (a[1] != -1) named(a[1]);
                if (a[0] == a[1]) throw new IllegalArgumentException();
                state(mortal(a[0]));
                change();
                int old = w.all.get(a[0]).heir;
                w.all.get(a[0]).heir = a[1];
                return old;
            }
            case "give": {
                range(7, a[0]); named(a[1]); state(w.running(a[1])); change();
                int old = w.holder[a[0]];
                w.holder[a[0]] = a[1];
                return old;
            }
            case "adopter": named(a[0]); state(mortal(a[0])); return w.adopter(a[0]);
            case "heirNow": named(a[0]); state(mortal(a[0])); return w.heirNow(a[0]);
            default: return callMore(name, a);
        }
    }

    private void exitChecks(int p, int code) {
        named(p);
        range(255, code);
        state(mortal(p));
    }

    private long callMore(String name, int[] a) {
        World t = w.twin();
        switch (name) {
            case "wouldFall": exitChecks(a[0], a[1]); return t.exit(a[0], a[1]);
            case "wouldStand": exitChecks(a[0], a[1]); t.exit(a[0], a[1]); return t.height();
            case "wouldHave": named(a[0]); exitChecks(a[1], a[2]); t.exit(a[1], a[2]); return t.all.get(a[0]).supervisor;
            case "wouldFallBy": range(9, a[0]); range(255, a[1]); t.kill(a[0], a[1]); return t.byRoot - w.byRoot;
            case "weakest": {
                range(255, a[0]);
                List<Integer> others = w.where(this::mortal);
                return others.isEmpty() ? -1 : others.stream().max(Comparator.<Integer>comparingInt(p ->
                        exitOf(w.twin(), p, a[0])).thenComparingInt(p -> -p)).get();
            }
            case "roomiest": {
                range(9, a[0]);
                List<Integer> others = w.where(p -> mortal(p) && w.room(p) > 0 && !w.all.get(p).refused.contains(a[0]));
                return others.isEmpty() ? -1 : others.stream().max(Comparator.<Integer>comparingInt(p ->
                        w.room(p)).thenComparingInt(p -> -p)).get();
            }
            case "allRoom": return w.runningOnes().stream().mapToInt(w::room).sum();
            case "overfull": return w.where(p -> w.running(p) && w.children(p).size() > w.all.get(p).capacity).size();
            case "ofGroup": range(9, a[0]); return w.where(p -> w.running(p) && w.all.get(p).group == a[0]).size();
            case "nextTestament": named(a[0]); return w.zombies(a[0]).isEmpty() ? -1 : w.zombies(a[0]).get(0);
            case "exited":
                if (a[0] < 0 || a[0] >= w.exits.size()) throw new NoSuchElementException();
                return w.exits.get(a[0]);
            case "meanDepth": return Double.doubleToLongBits((double) w.runningOnes().stream().mapToInt(w::depth).sum()
                    / (double) w.runningOnes().size());
            case "rootShare": return Float.floatToIntBits(w.adoptions == 0 ? 0f : (float) w.byRoot / (float) w.adoptions);
            case "prune": named(a[0]); range(255, a[1]); state(w.running(a[0])); change(); return w.prune(a[0], a[1]);
            case "exchange": {
                named(a);
                state(mortal(a[0]) && mortal(a[1]) && a[0] != a[1] && !w.above(a[0]).contains(a[1])
                        && !w.above(a[1]).contains(a[0]));
                change();
                int s = w.all.get(a[0]).supervisor;
                w.all.get(a[0]).supervisor = w.all.get(a[1]).supervisor;
                w.all.get(a[1]).supervisor = s;
                return w.where(p -> w.running(p) && w.depth(p) != t.depth(p)).size();
            }
            case "readAll": named(a[0]); state(w.running(a[0])); change(); return w.readAll(a[0]);
            case "testamentsBelow": named(a[0]); return !w.running(a[0]) ? 0
                    : w.where(z -> w.all.get(z).state == 1 && w.above(z).contains(a[0])).size();
            case "roomBelow": named(a[0]); return !w.running(a[0]) ? 0 : w.below(a[0]).stream().mapToInt(w::room).sum();
            case "mostAdopted": return w.where(p -> w.running(p) && w.all.get(p).adopted > 0).stream().max(
                    Comparator.<Integer>comparingInt(p -> w.all.get(p).adopted).thenComparingInt(p -> -p)).orElse(-1);
            case "adopters": named(a[0]); state(mortal(a[0])); return w.where(p -> w.can(p, a[0])).size();
            case "betterCode": {
                named(a[0]); state(mortal(a[0]));
                return w.twin().exit(a[0], 1) < t.exit(a[0], 0) ? 1 : 0;
            }
            case "wouldRun": range(9, a[0]); range(255, a[1]); t.kill(a[0], a[1]); return t.runningOnes().size();
            case "readShare": return Double.doubleToLongBits(w.exits.isEmpty() ? 0.0
                    : (double) w.where(p -> !there(p)).size() / (double) w.exits.size());
            case "apart": {
                named(a); state(there(a[0]) && there(a[1]));
                List<Integer> one = w.above(a[0]);
                List<Integer> two = w.above(a[1]);
                one.add(0, a[0]);
                two.add(0, a[1]);
                int m = w.meet(a[0], a[1]);
                return one.indexOf(m) + two.indexOf(m);
            }
            case "relieve": {
                named(a[0]); state(mortal(a[0])); change();
                int n = 0;
                for (; w.children(a[0]).size() > w.all.get(a[0]).capacity; n++) {
                    List<Integer> c = w.children(a[0]);
                    int last = c.get(c.size() - 1);
                    w.adopt(last, w.adopter(last));
                }
                return n;
            }
            case "wouldHold": named(a[1]); range(7, a[0]); exitChecks(a[1], a[2]); t.exit(a[1], a[2]); return t.holder[a[0]];
            case "dutyLife": {
                range(7, a[0]);
                int n = 0;
                for (; t.holder[a[0]] != 0; n++) t.exit(t.holder[a[0]], 0);
                return n;
            }
            case "heaviest": named(a[0]); return w.children(a[0]).stream().max(Comparator.<Integer>comparingInt(c ->
                    w.below(c).size()).thenComparingInt(c -> -c)).orElse(-1);
            case "groupsBelow": named(a[0]); return !w.running(a[0]) ? 0
                    : mask(w.below(a[0]).stream().mapToInt(p -> w.all.get(p).group));
            case "strangers": named(a[0]);
                return w.children(a[0]).stream().filter(c -> w.all.get(c).group != w.all.get(a[0]).group).count();
            case "print": named(a[0]); range(4, a[1]); state(there(a[0])); output = text(a[0], a[1]); return output.length();
            case "outputByte": return a[0] >= 0 && a[0] < output.length() ? output.charAt(a[0]) : -1;
            case "undo":
                if (past.isEmpty()) return -1;
                w = past.removeLast();
                return past.size();
            case "saveState": saved = w.twin(); return w.runningOnes().size();
            case "restoreState":
                state(saved != null);
                w = saved.twin();
                past.clear();
                return w.runningOnes().size();
            default: throw new AssertionError(name);
        }
    }

    private long count(int what) {
        switch (what) {
            case 0: return w.all.size();
            case 1: return w.runningOnes().size();
            case 2: return w.where(p -> w.all.get(p).state == 1).size();
            case 3: return w.where(p -> w.all.get(p).state == 2).size();
            case 4: return w.exits.size();
            case 5: return w.adoptions;
            case 6: return w.byRoot;
            case 7: return w.replacements;
            case 8: return Arrays.stream(w.holder).filter(h -> h == 0).count();
            case 9: return past.size();
            case 10: return w.deep;
            default: throw new IllegalArgumentException();
        }
    }

    private long property(int n, int what) {
        P p = w.all.get(n);
        switch (what) {
            case 0: return p.supervisor;
            case 1: return p.capacity;
            case 2: return w.room(n);
            case 3: return w.children(n).size();
            case 4: return w.zombies(n).size();
            case 5: return p.state;
            case 6: return p.group;
            case 7: return p.budget;
            case 8: return p.heir;
            case 9: return mask(IntStream.range(0, 8).filter(d -> w.holder[d] == n));
            case 10: return p.code;
            case 11: return mask(p.refused.stream().mapToInt(g -> g));
            case 12: return p.adopted;
            case 13: return p.replacement;
            case 14: return mask(IntStream.range(0, 8).filter(d -> p.wills[d] != -1));
            default: throw new IllegalArgumentException();
        }
    }

    private String text(int p, int what) {
        String found;
        switch (what) {
            case 0: {
                List<Integer> path = w.above(p);
                java.util.Collections.reverse(path);
                path.add(p);
                return path.stream().map(String::valueOf).collect(Collectors.joining("/"));
            }
            case 1: found = w.children(p).stream().map(String::valueOf).collect(Collectors.joining(",")); break;
            case 2: return w.branch(p);
            case 3: found = IntStream.range(0, 8).filter(d -> w.holder[d] == p).mapToObj(String::valueOf)
                    .collect(Collectors.joining()); break;
            default: found = w.zombies(p).stream().map(z -> z + ":" + w.all.get(z).code).collect(Collectors.joining(","));
        }
        return found.isEmpty() ? "-" : found;
    }
}
