/**
 * "REFUSALS change nothing and answer, the first that fits": each refused call is made
 * on one of two like objects, and all that can be asked of both must be the same behind it.
 */
public final class RefusalsTest extends Answers {
    private static final int NEVER = -99;
    // Each way of asking gets two new objects, so that none goes beyond an object's 512 calls.
    private static final int WAYS_OF_ASKING = 7;
    private static int compared = 0;

    private interface Arrangement {
        PortRules make();
    }

    private interface Call {
        int on(PortRules x);
    }

    private static final class Scene {
        final String name;
        final int parts;
        final int ports;
        final Arrangement arrangement;

        Scene(String name, int parts, int ports, Arrangement arrangement) {
            this.name = name;
            this.parts = parts;
            this.ports = ports;
            this.arrangement = arrangement;
        }
    }

    private static final Scene[] SCENES = {
        new Scene("empty", 0, 0, PortRules::new),
        new Scene("one part", 1, 0, () -> withParts(1)),
        new Scene("pair of kind 0", 2, 2, () -> pair(0)),
        new Scene("pair of kind 1", 2, 2, () -> pair(1)),
        new Scene("pair of kind 2", 2, 2, () -> pair(2)),
        new Scene("pair of kind 3", 2, 2, () -> pair(3)),
        new Scene("furnished pair of kind 0", 2, 2, () -> furnished(pair(0), 1, 2)),
        new Scene("furnished pair of kind 1", 2, 2, () -> furnished(pair(1), 1, 2)),
        new Scene("furnished pair of kind 3", 2, 2, () -> furnished(pair(3), 1, 2)),
        new Scene("open pair of kind 0", 2, 2, () -> openPair(0)),
        new Scene("open pair of kind 1", 2, 2, () -> openPair(1)),
        new Scene("row", 4, 4, () -> row(1)),
        new Scene("furnished row", 4, 4, () -> furnished(row(1), 1, 4)),
        new Scene("all parts", 30, 30, RefusalsTest::allParts),
        new Scene("all ports", 4, 60, RefusalsTest::allPorts),
    };

    public static void main(String[] args) {
        for (Scene scene : SCENES) {
            unknownParts(scene);
            unknownPorts(scene);
            outsideRanges(scene);
            wrongStates(scene);
            noRoom(scene);
            noChange(scene);
        }
        System.out.println(compared + " refused calls compared");
        end();
    }

    // Arrangements

    private static PortRules openPair(int kind) {
        PortRules x = withParts(2);
        x.port(1, kind, true);
        x.port(2, kind, false);
        return x;
    }

    /** All rules hold, and any change of the two ports breaks one or is seen in an answer. */
    private static PortRules furnished(PortRules x, int first, int second) {
        x.unit(first, 5, 6, 1);
        x.unit(second, 5, 3, 1);
        x.version(first, 150);
        x.version(second, 150);
        x.fallback(second, 8);
        x.queue(second, 100);
        x.manager(9, 1);
        x.manager(0, 2);
        return x;
    }

    private static PortRules allParts() {
        PortRules x = new PortRules();
        for (int part = 1; part <= 30; part++) {
            x.part(part % 10 == 0 ? part - 1 : 0);
            x.port(part, 0, part % 2 == 1);
        }
        x.connect(1, 2);
        x.connect(3, 30 - 2);
        x.manager(4, 30);
        return x;
    }

    /** Parts 3 in 1 and 4 in 2; rows of connectors lead from part 3 out, across and in to part 4. */
    private static PortRules allPorts() {
        PortRules x = withParts(2);
        x.part(1);
        x.part(2);
        for (int port = 1; port <= 60; port++) {
            x.port(1 + port % 4, port % 3, port % 2 == 0);
        }
        for (int port = 1; port <= 54; port++) {
            if (port % 4 != 3) {
                x.connect(port, port % 4 == 0 ? port + 9 : port + 6);
            }
        }
        return x;
    }

    // Refused calls

    private static int[] unknown(int count) {
        return new int[] {Integer.MIN_VALUE, -1, 0, count + 1, count + 64, Integer.MAX_VALUE};
    }

    private static void unknownParts(Scene scene) {
        says("REFUSALS: -1 an unknown number of a part");
        int[] kinds = {0, -1, 4};
        int[] modes = {0, -1, 10};
        for (int part : unknown(scene.parts)) {
            if (part != 0) {
                refused(scene, "part(" + part + ")", -1, x -> x.part(part));
            }
            for (int kind : kinds) {
                refused(scene, "port(" + part + ", " + kind + ", true)", -1, x -> x.port(part, kind, true));
                refused(scene, "port(" + part + ", " + kind + ", false)", -1, x -> x.port(part, kind, false));
            }
            for (int mode : modes) {
                refused(scene, "manager(" + mode + ", " + part + ")", -1, x -> x.manager(mode, part));
            }
        }
    }

    private static void unknownPorts(Scene scene) {
        says("REFUSALS: -1 an unknown number of a port");
        int[] lengths = {1, 0, 101};
        int[] versions = {0, -1, 10000};
        for (int port : unknown(scene.ports)) {
            refused(scene, "unit(" + port + ", 1, 1, 1)", -1, x -> x.unit(port, 1, 1, 1));
            refused(scene, "unit(" + port + ", 21, 0, 1001)", -1, x -> x.unit(port, 21, 0, 1001));
            refused(scene, "connect(" + port + ", 1)", -1, x -> x.connect(port, 1));
            refused(scene, "connect(1, " + port + ")", -1, x -> x.connect(1, port));
            refused(scene, "connect(" + port + ", " + port + ")", -1, x -> x.connect(port, port));
            refused(scene, "fallback(" + port + ", 3)", -1, x -> x.fallback(port, 3));
            for (int n : lengths) {
                refused(scene, "queue(" + port + ", " + n + ")", -1, x -> x.queue(port, n));
            }
            for (int v : versions) {
                refused(scene, "version(" + port + ", " + v + ")", -1, x -> x.version(port, v));
            }
        }
    }

    private static void outsideRanges(Scene scene) {
        says("REFUSALS: -2 outside a range");
        for (int part = 1; part <= scene.parts; part += 3) {
            int p = part;
            refused(scene, "port(" + p + ", -1, true)", -2, x -> x.port(p, -1, true));
            refused(scene, "port(" + p + ", 4, false)", -2, x -> x.port(p, 4, false));
            refused(scene, "manager(-1, " + p + ")", -2, x -> x.manager(-1, p));
            refused(scene, "manager(10, " + p + ")", -2, x -> x.manager(10, p));
        }
        for (int port = 1; port <= scene.ports; port += scene.ports > 10 ? 13 : 1) {
            outsideRangesOf(scene, port);
        }
    }

    private static void outsideRangesOf(Scene scene, int port) {
        int[] lengths = {Integer.MIN_VALUE, -1, 0, 101, Integer.MAX_VALUE};
        int[] versions = {Integer.MIN_VALUE, -1, 10000, Integer.MAX_VALUE};
        refused(scene, "unit(" + port + ", -1, 1, 1)", -2, x -> x.unit(port, -1, 1, 1));
        refused(scene, "unit(" + port + ", 21, 1, 1)", -2, x -> x.unit(port, 21, 1, 1));
        refused(scene, "unit(" + port + ", 4, 0, 1)", -2, x -> x.unit(port, 4, 0, 1));
        refused(scene, "unit(" + port + ", 4, 1001, 1)", -2, x -> x.unit(port, 4, 1001, 1));
        refused(scene, "unit(" + port + ", 4, 7, 0)", -2, x -> x.unit(port, 4, 7, 0));
        refused(scene, "unit(" + port + ", 5, 7, 1001)", -2, x -> x.unit(port, 5, 7, 1001));
        refused(scene, "unit(" + port + ", 21, 7, 7)", -2, x -> x.unit(port, 21, 7, 7));
        for (int n : lengths) {
            refused(scene, "queue(" + port + ", " + n + ")", -2, x -> x.queue(port, n));
        }
        for (int v : versions) {
            refused(scene, "version(" + port + ", " + v + ")", -2, x -> x.version(port, v));
        }
        refused(scene, "connect(" + port + ", " + port + ")", -2, x -> x.connect(port, port));
    }

    private static void wrongStates(Scene scene) {
        says("REFUSALS: -3 not in this state");
        for (int port = 1; port <= scene.ports; port++) {
            int p = port;
            // What is refused in one scene is granted in another, so the answer is looked up first.
            if (scene.arrangement.make().fallback(p, 4) == -3) {
                refused(scene, "fallback(" + p + ", 3)", -3, x -> x.fallback(p, 3));
            }
            if (scene.arrangement.make().queue(p, 1) == -3) {
                refused(scene, "queue(" + p + ", 1)", -3, x -> x.queue(p, 1));
                refused(scene, "queue(" + p + ", 100)", -3, x -> x.queue(p, 100));
                refused(scene, "queue(" + p + ", 101)", -2, x -> x.queue(p, 101));
            }
        }
    }

    private static void noRoom(Scene scene) {
        says("REFUSALS: -4 no room");
        if (scene.parts == 30) {
            for (int part = 0; part <= 30; part++) {
                int p = part;
                refused(scene, "part(" + p + ")", -4, x -> x.part(p));
            }
        }
        if (scene.ports == 60) {
            for (int part = 1; part <= scene.parts; part++) {
                int p = part;
                refused(scene, "port(" + p + ", 0, true)", -4, x -> x.port(p, 0, true));
                refused(scene, "port(" + p + ", 3, false)", -4, x -> x.port(p, 3, false));
                refused(scene, "port(" + p + ", 4, false)", -2, x -> x.port(p, 4, false));
            }
        }
    }

    private static void noChange(Scene scene) {
        says("0 if it is there already .. 0 if another one does (nothing changes)");
        for (int port = 1; port <= scene.ports; port++) {
            for (int other = 1; other <= scene.ports; other++) {
                int p = port;
                int o = other;
                int answer = scene.arrangement.make().connect(p, o);
                if (answer != 1 && (scene.ports <= 10 || p + o == 33)) {
                    refused(scene, "connect(" + p + ", " + o + ")", answer, x -> x.connect(p, o));
                }
            }
        }
        for (int part = 1; part <= scene.parts; part++) {
            for (int mode = 0; mode <= 9; mode++) {
                int p = part;
                int m = mode;
                if (scene.arrangement.make().manager(m, p) == 0) {
                    refused(scene, "manager(" + m + ", " + p + ")", 0, x -> x.manager(m, p));
                }
            }
        }
        says("IndexOutOfBoundsException when there is none");
        refused(scene, "at(-1, 0)", NEVER, x -> atOrNever(x, -1, 0));
        refused(scene, "at(1000, 1)", NEVER, x -> atOrNever(x, 1000, 1));
    }

    // Comparing

    private static void refused(Scene scene, String told, int want, Call call) {
        compared++;
        for (int way = 0; way < WAYS_OF_ASKING; way++) {
            for (int part = 0; part <= lastOf(way, scene); part++) {
                PortRules x = scene.arrangement.make();
                int got = call.on(x);
                String after = ask(way, part, x, scene);
                String before = ask(way, part, scene.arrangement.make(), scene);
                if (got != want) {
                    fault(scene.name + ": " + told + " answered " + got + ", due is " + want);
                    return;
                }
                if (!after.equals(before)) {
                    fault(scene.name + ": " + told + " changed\n  " + before + " to\n  " + after);
                    return;
                }
            }
        }
    }

    /** Asking for connectors or managers needs two objects for each port or part that is asked about. */
    private static int lastOf(int way, Scene scene) {
        return way == 0 ? scene.ports / portStep(scene) : way == 1 ? Math.min(scene.parts, 4) : 0;
    }

    /** Of many ports each fourth one's connectors are enough, and keep the test quick. */
    private static int portStep(Scene scene) {
        return scene.ports > 10 ? 4 : 1;
    }

    private static String ask(int way, int number, PortRules x, Scene scene) {
        switch (way) {
            case 0:
                return askConnectors(x, number * portStep(scene), scene.ports);
            case 1:
                return askManagers(x, number == 4 ? scene.parts : number);
            case 2:
                return askQuestions(x);
            case 3:
                return askRoom(x);
            case 4:
                return askFallbacks(x, scene.ports);
            case 5:
                return askRules(x, scene.ports, scene.parts);
            default:
                return askRulesBackwards(x, scene.ports);
        }
    }

    private static String askConnectors(PortRules x, int port, int ports) {
        StringBuilder all = new StringBuilder("connectors of " + port + ":");
        for (int other = 1; other <= ports; other++) {
            all.append(' ').append(x.connect(port, other));
        }
        return all.append(", flat ").append(x.flatten()).toString();
    }

    private static String askManagers(PortRules x, int part) {
        StringBuilder all = new StringBuilder("modes of " + part + ":");
        for (int mode = 0; mode <= 9; mode++) {
            all.append(' ').append(x.manager(mode, part));
        }
        return all.append(", check ").append(x.check()).toString();
    }

    private static String askQuestions(PortRules x) {
        int flat = x.flatten();
        StringBuilder all = new StringBuilder("check " + x.check() + ", flat " + flat + ":");
        for (int i = 0; i < flat && i < 60; i++) {
            all.append(' ').append(x.at(i, 0)).append('-').append(x.at(i, 1));
        }
        all.append(' ').append(atOrNever(x, flat, 0)).append(", open:");
        for (int i = 0; i < 62; i++) {
            all.append(' ').append(x.open(i));
        }
        return all.toString();
    }

    private static String askRoom(PortRules x) {
        StringBuilder all = new StringBuilder("next part ").append(x.part(0));
        all.append(", port ").append(x.port(1, 0, true));
        int parts = 0;
        while (parts < 40 && x.part(0) > 0) {
            parts++;
        }
        int ports = 0;
        while (ports < 70 && x.port(1, 0, false) > 0) {
            ports++;
        }
        return all.append(", room for ").append(parts).append(" and ").append(ports).toString();
    }

    private static String askFallbacks(PortRules x, int ports) {
        StringBuilder all = new StringBuilder("fallbacks:");
        for (int port = 1; port <= ports; port++) {
            all.append(' ').append(x.fallback(port, -7));
        }
        return all.toString();
    }

    /** Mends rule by rule, so that what each of them looks at is seen. */
    private static String askRules(PortRules x, int ports, int parts) {
        StringBuilder all = new StringBuilder("rules: " + x.check());
        for (int port = 1; port <= ports; port++) {
            x.unit(port, 0, 1, 1);
        }
        all.append(' ').append(x.check());
        for (int port = 1; port <= ports; port++) {
            x.version(port, 0);
        }
        all.append(' ').append(x.check());
        for (int port = 1; port <= ports; port++) {
            x.fallback(port, 0);
        }
        all.append(' ').append(x.check());
        for (int port = 1; port <= ports; port++) {
            x.queue(port, 1);
        }
        all.append(' ').append(x.check());
        for (int part = 1; part <= parts && part <= 10; part++) {
            x.manager(part - 1, part);
        }
        return all.append(' ').append(x.check()).toString();
    }

    /** Mends the later rules first, and gives every other port the unit that may be there. */
    private static String askRulesBackwards(PortRules x, int ports) {
        StringBuilder all = new StringBuilder("rules backwards:");
        for (int port = ports; port >= 1; port--) {
            x.queue(port, 1);
            all.append(' ').append(x.check());
        }
        for (int port = ports; port >= 1; port--) {
            x.fallback(port, 1);
            all.append(' ').append(x.check());
        }
        for (int port = ports; port >= 1; port--) {
            x.version(port, 150);
            all.append(' ').append(x.check());
        }
        for (int port = ports; port >= 1 && ports <= 10; port--) {
            x.unit(port, 5, 3, 1);
            all.append(' ').append(x.check());
        }
        return all.toString();
    }

    private static int atOrNever(PortRules x, int i, int what) {
        try {
            return x.at(i, what);
        } catch (IndexOutOfBoundsException e) {
            return NEVER;
        }
    }
}
