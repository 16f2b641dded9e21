import java.util.ArrayList;
import java.util.HashMap;
import java.util.List;
import java.util.Map;

/** Long runs of calls, the same each time, against a plain model that searches each path anew. */
public final class ModelTest {
    private static final int RUNS = 3000;
    // Nothing is promised about an object after so many calls.
    private static final int MOST_CALLS = 512;
    private static long seed = 20261115;
    private static int wrong = 0;
    private static int calls = 0;

    public static void main(String[] args) {
        for (int run = 0; run < RUNS && wrong < 20; run++) {
            playRun(run);
        }
        System.out.println(wrong == 0 ? "class and model agree" : wrong + " answers differ");
        if (wrong != 0) {
            System.exit(1);
        }
    }

    /** A number from 0 to bound - 1, from a fixed sequence. */
    private static int pick(int bound) {
        seed = seed * 6364136223846793005L + 1442695040888963407L;
        return (int) ((seed >>> 33) % bound);
    }

    private static boolean chance(int percent) {
        return pick(100) < percent;
    }

    private static void playRun(int run) {
        PortRules real = new PortRules();
        Model model = new Model();
        // Few parts and kinds make rich joins, many parts reach the limits.
        int parts = run % 5 == 0 ? 40 : 3 + pick(10);
        int kinds = 1 + pick(4);
        int growth = 60 + pick(120);
        int furnished = 0;
        calls = 0;
        for (int step = 0; calls < MOST_CALLS; step++) {
            String told;
            if (step < growth) {
                told = grow(real, model, parts, kinds);
            } else if (furnished < model.ports.size()) {
                furnished++;
                told = furnish(real, model, furnished, run);
            } else {
                told = use(real, model, run);
            }
            if (!told.isEmpty()) {
                wrong++;
                System.out.println("run " + run + ", by call " + calls + ": " + told);
                return;
            }
        }
    }

    /** Gives a port what the rules want, in some runs, so that the later rules are seen too. */
    private static String furnish(PortRules real, Model model, int port, int run) {
        String told = "";
        if (run % 2 == 1) {
            told += compare("unit", real.unit(port, 0, 1, 1), model.unit(port, 0, 1, 1));
        }
        if (run % 8 != 0) {
            told += compare("fallback", real.fallback(port, port), model.fallback(port, port));
        }
        if (run % 8 > 2) {
            told += compare("queue", real.queue(port, port), model.queue(port, port));
        }
        return told;
    }

    private static String grow(PortRules real, Model model, int parts, int kinds) {
        if (pick(4) == 0 && model.parts.size() < parts) {
            int composition = pick(model.parts.size() + 1) - (chance(2) ? 1 : 0) + (chance(2) ? 1 : 0);
            return compare("part(" + composition + ")", real.part(composition), model.part(composition));
        }
        int part = pick(model.parts.size() + 1) + (chance(2) ? 1 : 0);
        int kind = chance(2) ? 4 - 5 * pick(2) : pick(kinds);
        boolean provided = chance(50);
        return compare("port(" + part + ", " + kind + ", " + provided + ")",
            real.port(part, kind, provided), model.port(part, kind, provided));
    }

    private static String use(PortRules real, Model model, int run) {
        int port = anyPort(model);
        switch (pick(12)) {
            case 0:
                return run % 8 < 4 ? units(real, model, port) : questions(real, model);
            case 1:
                if (run % 4 > 1) {
                    return questions(real, model);
                }
                int v = chance(10) ? 9999 + pick(2) : pick(4) * 50 - (chance(5) ? 1 : 0);
                return compare("version(" + port + ", " + v + ")", real.version(port, v), model.version(port, v));
            case 2:
                int f = pick(5) - 2;
                return compare("fallback(" + port + ", " + f + ")", real.fallback(port, f), model.fallback(port, f));
            case 3:
                int n = chance(20) ? pick(2) * 101 : 1 + pick(100);
                return compare("queue(" + port + ", " + n + ")", real.queue(port, n), model.queue(port, n));
            case 4:
                int mode = pick(12) - 1;
                int part = pick(model.parts.size() + 2);
                return compare("manager(" + mode + ", " + part + ")", real.manager(mode, part), model.manager(mode, part));
            case 5:
                return chance(10) ? grow(real, model, 40, 4) : questions(real, model);
            default:
                return connects(real, model, port);
        }
    }

    private static int anyPort(Model model) {
        return chance(3) ? pick(63) - 1 : 1 + pick(Math.max(1, model.ports.size()));
    }

    private static String units(PortRules real, Model model, int port) {
        int u = chance(5) ? pick(2) * 22 - 1 : chance(10) ? 1 : 0;
        long up = chance(3) ? pick(2) * 1001 : 1 + pick(3);
        long down = chance(3) ? pick(2) * 1001 : 1 + pick(2);
        return compare("unit(" + port + ", " + u + ", " + up + ", " + down + ")",
            real.unit(port, u, up, down), model.unit(port, u, up, down));
    }

    private static String connects(PortRules real, Model model, int port) {
        int other = anyPort(model);
        // Most pairs are refused, so a pair that is allowed is looked for at times.
        for (int tries = 0; tries < 40 && !model.allowed(port, other) && !chance(3); tries++) {
            port = anyPort(model);
            other = anyPort(model);
        }
        return compare("connect(" + port + ", " + other + ")", real.connect(port, other), model.connect(port, other));
    }

    /** The counts, and the edges and one of the middle of each list. */
    private static String questions(PortRules real, Model model) {
        List<int[]> flat = model.flat();
        List<Integer> open = model.open(flat);
        String told = compare("flatten()", real.flatten(), flat.size());
        told += compare("check()", real.check(), model.check(flat));
        int[] openAsked = {-1, pick(open.size() + 1), open.size() - 1, open.size()};
        for (int i : openAsked) {
            told += compare("open(" + i + ")", real.open(i), i < 0 || i >= open.size() ? 0 : open.get(i));
        }
        int[] flatAsked = {-1, 0, pick(flat.size() + 1), flat.size() - 1, flat.size()};
        for (int i : flatAsked) {
            boolean there = i >= 0 && i < flat.size();
            told += compare("at(" + i + ", 0)", atOrThrow(real, i, 0), there ? flat.get(i)[0] : -99);
            told += compare("at(" + i + ", 1)", atOrThrow(real, i, 1 - 2 * pick(2)), there ? flat.get(i)[1] : -99);
        }
        return told;
    }

    private static int atOrThrow(PortRules real, int i, int what) {
        try {
            return real.at(i, what);
        } catch (IndexOutOfBoundsException e) {
            return -99;
        }
    }

    /** Compares the answers to one call, as far as they are promised. */
    private static String compare(String call, int got, int want) {
        calls++;
        return calls > MOST_CALLS || got == want ? "" : call + " answered " + got + ", the model " + want + "; ";
    }

    private static final class Port {
        int part;
        int kind;
        boolean provided;
        Integer unit;
        long up;
        long down;
        Integer version;
        Integer fallback;
        Integer queue;
        final List<Integer> to = new ArrayList<>();
    }

    private static final class Model {
        final List<Integer> parts = new ArrayList<>();
        final List<Port> ports = new ArrayList<>();
        final Map<Integer, Integer> managers = new HashMap<>();

        boolean noPart(int n) {
            return n < 1 || n > parts.size();
        }

        boolean noPort(int n) {
            return n < 1 || n > ports.size();
        }

        Port get(int n) {
            return ports.get(n - 1);
        }

        int part(int composition) {
            if (composition != 0 && noPart(composition)) return -1;
            if (parts.size() == 30) return -4;
            parts.add(composition);
            return parts.size();
        }

        int port(int part, int kind, boolean provided) {
            if (noPart(part)) return -1;
            if (kind < 0 || kind > 3) return -2;
            if (ports.size() == 60) return -4;
            Port port = new Port();
            port.part = part;
            port.kind = kind;
            port.provided = provided;
            ports.add(port);
            return ports.size();
        }

        int unit(int port, int u, long up, long down) {
            if (noPort(port)) return -1;
            if (u < 0 || u > 20 || up < 1 || up > 1000 || down < 1 || down > 1000) return -2;
            get(port).unit = u;
            get(port).up = up;
            get(port).down = down;
            return 1;
        }

        boolean allowed(int from, int to) {
            if (noPort(from) || noPort(to)) return false;
            Port a = get(from);
            Port b = get(to);
            int homeOfA = parts.get(a.part - 1);
            int homeOfB = parts.get(b.part - 1);
            boolean across = a.provided && !b.provided && a.part != b.part && homeOfA == homeOfB;
            boolean out = a.provided && b.provided && homeOfA == b.part;
            boolean in = !a.provided && !b.provided && homeOfB == a.part;
            return a.kind == b.kind && (across || out || in);
        }

        int connect(int from, int to) {
            if (noPort(from) || noPort(to)) return -1;
            if (!allowed(from, to)) return -2;
            if (get(from).to.contains(to)) return 0;
            get(from).to.add(to);
            return 1;
        }

        int manager(int mode, int part) {
            if (noPart(part)) return -1;
            if (mode < 0 || mode > 9) return -2;
            return managers.computeIfAbsent(mode, m -> part) == part ? 1 : 0;
        }

        int fallback(int port, int v) {
            if (noPort(port)) return -1;
            if (get(port).provided) return -3;
            Integer before = get(port).fallback;
            get(port).fallback = v;
            return before == null ? 0 : before;
        }

        int queue(int port, int n) {
            if (noPort(port)) return -1;
            if (n < 1 || n > 100) return -2;
            if (get(port).kind != 1) return -3;
            get(port).queue = n;
            return 1;
        }

        int version(int port, int v) {
            if (noPort(port)) return -1;
            if (v < 0 || v > 9999) return -2;
            get(port).version = v;
            return 1;
        }

        boolean atomic(int port) {
            return !parts.contains(get(port).part);
        }

        boolean leads(int from, int to) {
            for (int next : get(from).to) {
                if (next == to || leads(next, to)) return true;
            }
            return false;
        }

        List<int[]> flat() {
            List<int[]> flat = new ArrayList<>();
            for (int a = 1; a <= ports.size(); a++) {
                for (int b = 1; b <= ports.size(); b++) {
                    boolean ends = get(a).provided && atomic(a) && !get(b).provided && atomic(b);
                    if (ends && leads(a, b)) flat.add(new int[] {a, b});
                }
            }
            return flat;
        }

        int leading(List<int[]> flat, int port) {
            int count = 0;
            for (int[] pair : flat) {
                if (pair[1] == port) count++;
            }
            return count;
        }

        List<Integer> open(List<int[]> flat) {
            List<Integer> open = new ArrayList<>();
            for (int port = 1; port <= ports.size(); port++) {
                if (!get(port).provided && atomic(port) && leading(flat, port) == 0) open.add(port);
            }
            return open;
        }

        int check(List<int[]> flat) {
            for (int rule = 1; rule <= 9; rule++) {
                if (rule < 5 || rule == 9) {
                    for (int[] pair : flat) {
                        if (!holds(rule, get(pair[0]), get(pair[1]))) return 1000 * rule + pair[1];
                    }
                } else {
                    for (int port = 1; port <= ports.size(); port++) {
                        boolean looked = !get(port).provided && atomic(port);
                        if (looked && !holds(rule, get(port), leading(flat, port))) return 1000 * rule + port;
                    }
                }
            }
            return 0;
        }

        boolean holds(int rule, Port a, Port b) {
            boolean units = a.unit != null && b.unit != null;
            if (rule == 1) return units || a.unit == null && b.unit == null;
            if (rule == 2) return !units || a.unit.equals(b.unit);
            if (rule == 3) return !units || (a.up * b.down) % (a.down * b.up) == 0;
            if (rule == 4) {
                if (b.version == null) return true;
                return a.version != null && a.version / 100 == b.version / 100 && a.version >= b.version;
            }
            return a.kind != 3 || managers.containsValue(a.part);
        }

        boolean holds(int rule, Port port, int leading) {
            if (rule == 5) return port.kind == 2 || leading > 0 || port.fallback != null;
            if (rule == 6) return port.kind != 2 || leading >= 1;
            if (rule == 7) return port.kind != 2 || leading <= 1;
            return port.kind != 1 || port.queue != null;
        }
    }
}
