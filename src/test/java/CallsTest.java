/** The boundary cases that promises 1 to 13 name, each sentence with a test of its own. */
public final class CallsTest extends Answers {
    public static void main(String[] args) {
        newObject();
        newObjectsShareNothing();
        partNumber();
        partUnknown();
        partRoom();
        portNumber();
        portUnknown();
        portKind();
        portRoom();
        unitAnswer();
        unitUnknown();
        unitNone();
        unitUp();
        unitDown();
        connectAnswer();
        connectThereAlready();
        connectUnknown();
        connectNoWay();
        connectTwoKinds();
        flattenCounts();
        atFromZero();
        atWhat();
        atNone();
        checkNone();
        managerAnswer();
        managerAlso();
        managerOther();
        managerUnknown();
        managerMode();
        fallbackAnyValue();
        fallbackAtFirst();
        fallbackUnknown();
        fallbackProvided();
        queueAnswer();
        queueUnknown();
        queueLength();
        queueKind();
        versionAnswer();
        versionUnknown();
        versionNone();
        openFromZero();
        openByNumbers();
        openNone();
        noCallThrows();
        laterCallsThrowNothing();
        end();
    }

    /** Unknown to an object with so many parts, or ports. */
    private static int[] unknown(int count) {
        return new int[] {Integer.MIN_VALUE, -count, -1, 0, count + 1, count + 64, Integer.MAX_VALUE};
    }

    /** Parts 1 and 2 on top, ports 1 to 60; the odd ones are required and of part 2, the even ones of part 1. */
    private static PortRules withSixtyPorts(int kind) {
        PortRules x = withParts(2);
        for (int port = 1; port <= 60; port++) {
            x.port(port % 2 == 0 ? 1 : 2, kind, port % 2 == 0);
        }
        return x;
    }

    private static PortRules sixtyRequired() {
        PortRules x = withParts(2);
        for (int port = 1; port <= 60; port++) {
            x.port(1 + port % 2, port % 4, false);
        }
        return x;
    }

    // Promise 1

    private static void newObject() {
        says("PortRules(): No parts, no ports.");
        due("a port of part 1", -1, new PortRules().port(1, 0, true));
        due("a part in part 1", -1, new PortRules().part(1));
        due("a manager", -1, new PortRules().manager(0, 1));
        due("a unit", -1, new PortRules().unit(1, 0, 1, 1));
        due("a connector", -1, new PortRules().connect(1, 1));
        due("a fallback", -1, new PortRules().fallback(1, 0));
        due("a queue", -1, new PortRules().queue(1, 1));
        due("a version", -1, new PortRules().version(1, 0));
        due("flatten", 0, new PortRules().flatten());
        due("check", 0, new PortRules().check());
        due("open", 0, new PortRules().open(0));
        dueThrow("at", new PortRules(), 0, 0);
    }

    private static void newObjectsShareNothing() {
        says("PortRules(): A new object");
        PortRules full = withSixtyPorts(3);
        full.connect(2, 1);
        full.manager(0, 1);
        PortRules x = new PortRules();
        due("its first part", 1, x.part(0));
        due("a part of the other object", -1, x.port(2, 0, true));
        due("its first port", 1, x.port(1, 3, false));
        due("its flat connectors", 0, x.flatten());
        due("its modes", 1, x.manager(0, 1));
        due("the other object is as before", 1, full.flatten());
        due("and so are its modes", 0, full.manager(0, 2));
    }

    // Promise 2

    private static void partNumber() {
        says("A part in a COMPOSITION (0: on top): its number");
        PortRules x = new PortRules();
        for (int number = 1; number <= 30; number++) {
            due("part " + number, number, x.part(number % 3 == 0 ? number - 1 : 0));
        }
    }

    private static void partUnknown() {
        says("part: -1 there is no such part");
        for (int count = 0; count <= 30; count += 10) {
            PortRules x = withParts(count);
            for (int number : unknown(count)) {
                if (number != 0) {
                    due("part(" + number + ") of " + count, -1, x.part(number));
                }
            }
            due("the next part", count < 30 ? count + 1 : -4, x.part(count));
        }
    }

    private static void partRoom() {
        says("part: -4 there are 30");
        PortRules x = withParts(29);
        due("the 30th", 30, x.part(29));
        due("the 31st on top", -4, x.part(0));
        due("the 31st in part 1", -4, x.part(1));
        due("the 31st in part 30", -4, x.part(30));
        due("the 31st in part 31", -1, x.part(31));
    }

    // Promise 3

    private static void portNumber() {
        says("A port: its number");
        PortRules x = withParts(30);
        for (int number = 1; number <= 60; number++) {
            due("port " + number, number, x.port(1 + number % 30, number % 4, number % 2 == 0));
        }
    }

    private static void portUnknown() {
        says("port: -1 there is no part");
        for (int count = 0; count <= 30; count += 15) {
            PortRules x = withParts(count);
            for (int number : unknown(count)) {
                due("of part " + number, -1, x.port(number, 0, true));
                due("of part " + number + ", of no kind", -1, x.port(number, 4, true));
            }
            due("of the last part", count == 0 ? -1 : 1, x.port(count, 0, true));
        }
    }

    private static void portKind() {
        says("port: -2 there is no such KIND");
        PortRules x = withParts(1);
        int[] outside = {-1, 4, Integer.MIN_VALUE, Integer.MAX_VALUE};
        for (int kind : outside) {
            due("provided, of kind " + kind, -2, x.port(1, kind, true));
            due("required, of kind " + kind, -2, x.port(1, kind, false));
        }
        due("kind 0", 1, x.port(1, 0, true));
        due("kind 3", 2, x.port(1, 3, true));
    }

    private static void portRoom() {
        says("port: -4 there are 60");
        PortRules x = withSixtyPorts(0);
        due("the 61st", -4, x.port(1, 0, true));
        due("the 61st, required", -4, x.port(2, 3, false));
        due("the 61st of no kind", -2, x.port(1, 4, true));
        due("the 61st of kind -1", -2, x.port(1, -1, true));
        due("the 61st of no part", -1, x.port(3, 0, true));
        due("the 61st of no part and no kind", -1, x.port(3, 4, true));
    }

    // Promise 4

    private static void unitAnswer() {
        says("A port's UNIT and SCALING: 1");
        PortRules x = pair(2);
        due("of a provided port", 1, x.unit(1, 20, 1000, 1000));
        due("of a required port", 1, x.unit(2, 20, 1, 1));
        due("again", 1, x.unit(2, 20, 1, 1));
        due("another one", 1, x.unit(2, 0, 1, 1));
        due("the other one counts", 2002, x.check());
    }

    private static void unitUnknown() {
        says("unit: -1 there is no port");
        PortRules x = withSixtyPorts(0);
        for (int number : unknown(60)) {
            due("port " + number, -1, x.unit(number, 0, 1, 1));
            due("port " + number + " and all outside", -1, x.unit(number, 21, 0, 1001));
        }
        due("port 60", 1, x.unit(60, 0, 1, 1));
        due("port 1", 1, x.unit(1, 0, 1, 1));
    }

    private static void unitNone() {
        says("unit: -2 u is none");
        int[] outside = {-1, 21, Integer.MIN_VALUE, Integer.MAX_VALUE};
        for (int u : outside) {
            due("unit " + u, -2, pair(0).unit(1, u, 1, 1));
        }
        due("unit 0", 1, pair(0).unit(1, 0, 1, 1));
        due("unit 20", 1, pair(0).unit(1, 20, 1, 1));
    }

    private static final long[] NO_SCALING = {0, 1001, -1, -1000, (1L << 32) + 1, -(1L << 32) + 1,
        Long.MIN_VALUE, Long.MAX_VALUE};

    private static void unitUp() {
        says("unit: -2 .. up .. not 1 .. 1000");
        for (long up : NO_SCALING) {
            due("up " + up, -2, pair(0).unit(1, 0, up, 1));
        }
        due("up 1", 1, pair(0).unit(1, 0, 1, 1));
        due("up 1000", 1, pair(0).unit(1, 0, 1000, 1));
    }

    private static void unitDown() {
        says("unit: -2 .. or down not 1 .. 1000");
        for (long down : NO_SCALING) {
            due("down " + down, -2, pair(0).unit(1, 0, 1, down));
        }
        due("down 1", 1, pair(0).unit(1, 0, 1, 1));
        due("down 1000", 1, pair(0).unit(1, 0, 1, 1000));
    }

    // Promise 5

    private static void connectAnswer() {
        says("A CONNECTOR: 1");
        PortRules x = withSixtyPorts(0);
        due("from port 2 to port 1", 1, x.connect(2, 1));
        due("from port 60 to port 59", 1, x.connect(60, 59));
        due("from port 2 to port 59", 1, x.connect(2, 59));
        due("from port 60 to port 1", 1, x.connect(60, 1));
        due("four flat ones", 4, x.flatten());
    }

    private static void connectThereAlready() {
        says("connect: or 0 if it is there already");
        PortRules x = withSixtyPorts(0);
        for (int port = 2; port <= 60; port += 2) {
            due("the first time, from " + port, 1, x.connect(port, 61 - port));
            due("the second time, from " + port, 0, x.connect(port, 61 - port));
        }
        due("thirty flat ones", 30, x.flatten());
        PortRules one = withSixtyPorts(0);
        for (int port = 1; port <= 59; port += 2) {
            due("the first time, to " + port, 1, one.connect(60, port));
        }
        for (int port = 1; port <= 59; port += 2) {
            due("the second time, to " + port, 0, one.connect(60, port));
        }
        PortRules y = row(0);
        due("out, again", 0, y.connect(1, 2));
        due("across, again", 0, y.connect(2, 3));
        due("in, again", 0, y.connect(3, 4));
        y.part(2);
        due("out of a composition, again", 0, y.connect(1, 2));
    }

    private static void connectUnknown() {
        says("connect: -1 there is no such port");
        PortRules x = withSixtyPorts(0);
        for (int number : unknown(60)) {
            due("from " + number, -1, x.connect(number, 1));
            due("to " + number, -1, x.connect(2, number));
            due("from " + number + " to itself", -1, x.connect(number, number));
            due("from a required port to " + number, -1, x.connect(1, number));
            due("from " + number + " to a provided port", -1, x.connect(number, 2));
        }
        PortRules y = pair(0);
        due("to the next port", -1, y.connect(1, 3));
        due("from the next port", -1, y.connect(3, 2));
    }

    private static void connectNoWay() {
        says("connect: -2 it is none of the three ways");
        PortRules x = row(0);
        int[] ways = {1, 2, 2, 3, 3, 4};
        for (int port = 1; port <= 4; port++) {
            for (int other = 1; other <= 4; other++) {
                boolean isWay = false;
                for (int i = 0; i < ways.length; i += 2) {
                    isWay |= ways[i] == port && ways[i + 1] == other;
                }
                due("connect(" + port + ", " + other + ")", isWay ? 0 : -2, x.connect(port, other));
            }
        }
    }

    private static void connectTwoKinds() {
        says("connect: -2 .. or the KINDS are two");
        for (int kind = 0; kind < 4; kind++) {
            for (int step = 1; step < 4; step++) {
                PortRules x = withParts(2);
                x.port(1, kind, true);
                x.port(2, (kind + step) % 4, false);
                due("kinds " + kind + " and " + (kind + step) % 4, -2, x.connect(1, 2));
            }
        }
    }

    // Promises 6 to 8

    private static void flattenCounts() {
        says("How many FLAT CONNECTORS there are");
        PortRules x = withSixtyPorts(0);
        due("none", 0, x.flatten());
        for (int port = 2; port <= 60; port += 2) {
            x.connect(port, 1);
            due("up to " + port, port / 2, x.flatten());
        }
        for (int port = 3; port <= 59; port += 2) {
            x.connect(60, port);
            due("up to " + port + " from 60", 30 + port / 2, x.flatten());
        }
        x.part(1);
        due("the first part is a composition", 0, x.flatten());
    }

    private static void atFromZero() {
        says("FLAT CONNECTOR i (from 0)");
        PortRules x = withSixtyPorts(0);
        x.connect(2, 1);
        x.connect(2, 59);
        x.connect(60, 1);
        int[] flat = {2, 1, 2, 59, 60, 1};
        for (int i = 0; i < 3; i++) {
            due("first port of " + i, flat[2 * i], x.at(i, 0));
            due("second port of " + i, flat[2 * i + 1], x.at(i, 1));
        }
    }

    private static void atWhat() {
        says("what = 0 its first port, others the second");
        int[] others = {1, -1, 2, 256, 1 << 16, Integer.MIN_VALUE, Integer.MAX_VALUE};
        PortRules x = withSixtyPorts(0);
        x.connect(60, 59);
        due("what 0", 60, x.at(0, 0));
        for (int what : others) {
            due("what " + what, 59, x.at(0, what));
        }
    }

    private static void atNone() {
        says("IndexOutOfBoundsException when there is none");
        int[] outside = {-1, 3, 4, Integer.MIN_VALUE, Integer.MAX_VALUE};
        PortRules x = withSixtyPorts(0);
        dueThrow("the first, when there is none", x, 0, 0);
        x.connect(2, 1);
        x.connect(2, 59);
        x.connect(60, 1);
        for (int i : outside) {
            dueThrow("at(" + i + ", 0)", x, i, 0);
            dueThrow("at(" + i + ", 1)", x, i, 1);
        }
        due("the last", 60, x.at(2, 0));
    }

    private static void checkNone() {
        says("0 if no RULE is broken, otherwise which and where");
        PortRules x = withSixtyPorts(0);
        due("thirty open ports", 5001, x.check());
        for (int port = 1; port <= 57; port += 2) {
            x.fallback(port, 0);
        }
        due("only the last is left", 5059, x.check());
        x.connect(60, 59);
        due("none is left", 0, x.check());
    }

    // Promise 9

    private static void managerAnswer() {
        says("A part MANAGES a mode: 1");
        PortRules x = withParts(30);
        for (int mode = 0; mode <= 9; mode++) {
            due("mode " + mode, 1, x.manager(mode, 30 - mode));
        }
        due("of a composition", 1, managerOfComposition());
    }

    private static int managerOfComposition() {
        PortRules x = withParts(1);
        x.part(1);
        return x.manager(0, 1);
    }

    private static void managerAlso() {
        says("manager: 1 (also if it did)");
        PortRules x = withParts(30);
        for (int mode = 0; mode <= 9; mode++) {
            x.manager(mode, 1);
            due("mode " + mode + " again", 1, x.manager(mode, 1));
            due("mode " + mode + " a third time", 1, x.manager(mode, 1));
        }
    }

    private static void managerOther() {
        says("manager: 0 if another one does (nothing changes)");
        PortRules x = pair(3);
        x.manager(9, 2);
        due("another one", 0, x.manager(9, 1));
        due("once more", 0, x.manager(9, 1));
        due("it is not managed by the other one", 9002, x.check());
        due("the first one does still", 1, x.manager(9, 2));
        due("a free mode", 1, x.manager(8, 1));
    }

    private static void managerUnknown() {
        says("manager: -1 there is no part");
        for (int count = 0; count <= 30; count += 15) {
            PortRules x = withParts(count);
            for (int number : unknown(count)) {
                due("part " + number, -1, x.manager(0, number));
                due("part " + number + ", mode 10", -1, x.manager(10, number));
                due("part " + number + ", mode -1", -1, x.manager(-1, number));
            }
            due("the last part", count == 0 ? -1 : 1, x.manager(0, count));
        }
    }

    private static void managerMode() {
        says("manager: -2 there is no such mode");
        PortRules x = withParts(1);
        int[] outside = {-1, 10, Integer.MIN_VALUE, Integer.MAX_VALUE};
        for (int mode : outside) {
            due("mode " + mode, -2, x.manager(mode, 1));
        }
        due("mode 0", 1, x.manager(0, 1));
        due("mode 9", 1, x.manager(9, 1));
    }

    // Promise 10

    private static void fallbackAnyValue() {
        says("A port's FALLBACK, any v: what it was, as far as there was one");
        int[] values = {Integer.MIN_VALUE, -4, -3, -2, -1, 0, 1, Integer.MAX_VALUE};
        for (int kind = 0; kind < 4; kind++) {
            PortRules x = withParts(1);
            x.port(1, kind, false);
            int before = 0;
            for (int v : values) {
                due("behind " + before + ", kind " + kind, before, x.fallback(1, v));
                before = v;
            }
            due("the last one, kind " + kind, before, x.fallback(1, 0));
        }
    }

    private static void fallbackAtFirst() {
        says("fallback: otherwise 0");
        PortRules x = withSixtyPorts(0);
        for (int port = 1; port <= 59; port += 2) {
            due("port " + port, 0, x.fallback(port, -port));
        }
        for (int port = 1; port <= 59; port += 2) {
            due("port " + port + " again", -port, x.fallback(port, 7));
        }
    }

    private static void fallbackUnknown() {
        says("fallback: -1 there is no port");
        PortRules x = withSixtyPorts(0);
        for (int number : unknown(60)) {
            due("port " + number, -1, x.fallback(number, 5));
        }
        due("port 1", 0, x.fallback(1, 5));
        due("port 60 of sixty required ones", 0, sixtyRequired().fallback(60, 5));
        PortRules y = withParts(1);
        due("port 1, not made yet", -1, y.fallback(1, 5));
        y.port(1, 0, false);
        due("port 1, made", 0, y.fallback(1, 5));
        due("port 2, not made yet", -1, y.fallback(2, 5));
    }

    private static void fallbackProvided() {
        says("fallback: -3 it is PROVIDED");
        PortRules x = withSixtyPorts(1);
        for (int port = 2; port <= 60; port += 2) {
            due("port " + port, -3, x.fallback(port, 5));
        }
        due("port 59, required", 0, x.fallback(59, 5));
    }

    // Promise 11

    private static void queueAnswer() {
        says("A port's QUEUE: 1");
        PortRules x = pair(1);
        due("of a required port", 1, x.queue(2, 1));
        due("again", 1, x.queue(2, 1));
        due("another one", 1, x.queue(2, 100));
        due("of a provided port", 1, x.queue(1, 100));
    }

    private static void queueUnknown() {
        says("queue: -1 there is no port");
        PortRules x = withSixtyPorts(1);
        for (int number : unknown(60)) {
            due("port " + number, -1, x.queue(number, 1));
            due("port " + number + ", n 0", -1, x.queue(number, 0));
            due("port " + number + ", n 101", -1, x.queue(number, 101));
        }
        due("port 1", 1, x.queue(1, 1));
        due("port 60", 1, x.queue(60, 1));
    }

    private static void queueLength() {
        says("queue: -2 n is not 1 .. 100");
        int[] outside = {0, 101, -1, Integer.MIN_VALUE, Integer.MAX_VALUE};
        for (int kind = 0; kind < 4; kind++) {
            for (int n : outside) {
                due("n " + n + ", kind " + kind, -2, pair(kind).queue(2, n));
            }
        }
        due("n 1", 1, pair(1).queue(2, 1));
        due("n 100", 1, pair(1).queue(2, 100));
    }

    private static void queueKind() {
        says("queue: -3 it is not of KIND 1");
        for (int kind = 0; kind < 4; kind++) {
            for (int port = 1; port <= 2; port++) {
                due("n 1, kind " + kind, kind == 1 ? 1 : -3, pair(kind).queue(port, 1));
                due("n 100, kind " + kind, kind == 1 ? 1 : -3, pair(kind).queue(port, 100));
            }
        }
    }

    // Promise 12

    private static void versionAnswer() {
        says("A port's VERSION: 1");
        for (int kind = 0; kind < 4; kind++) {
            PortRules x = pair(kind);
            due("of a provided port", 1, x.version(1, 0));
            due("of a required port", 1, x.version(2, 9999));
            due("again", 1, x.version(2, 9999));
            due("another one", 1, x.version(2, 0));
        }
    }

    private static void versionUnknown() {
        says("version: -1 there is no port");
        PortRules x = withSixtyPorts(0);
        for (int number : unknown(60)) {
            due("port " + number, -1, x.version(number, 0));
            due("port " + number + ", v -1", -1, x.version(number, -1));
            due("port " + number + ", v 10000", -1, x.version(number, 10000));
        }
        due("port 1", 1, x.version(1, 0));
        due("port 60", 1, x.version(60, 0));
    }

    private static void versionNone() {
        says("version: -2 v is none");
        int[] outside = {-1, 10000, -100, Integer.MIN_VALUE, Integer.MAX_VALUE};
        for (int v : outside) {
            due("v " + v, -2, pair(0).version(1, v));
        }
        due("v 0", 1, pair(0).version(1, 0));
        due("v 9999", 1, pair(0).version(1, 9999));
    }

    // Promise 13

    private static void openFromZero() {
        says("The i-th (from 0) REQUIRED port of an ATOMIC part to which no FLAT CONNECTOR leads");
        PortRules x = sixtyRequired();
        for (int i = 0; i < 60; i++) {
            due("open(" + i + ") of sixty", i + 1, x.open(i));
        }
        due("open(60) of sixty", 0, x.open(60));
        x.fallback(1, 0);
        due("a fallback does not close it", 1, x.open(0));
        PortRules y = outAcrossIn(0);
        y.connect(2, 3);
        y.connect(3, 4);
        due("connectors, but no flat one", 4, y.open(0));
        y.connect(1, 2);
        due("a flat one", 0, y.open(0));
    }

    private static void openByNumbers() {
        says("open: by numbers");
        PortRules x = withSixtyPorts(0);
        x.connect(2, 3);
        x.connect(60, 57);
        int[] open = {1, 5, 7, 9};
        for (int i = 0; i < open.length; i++) {
            due("open(" + i + ")", open[i], x.open(i));
        }
        due("the last but one", 55, x.open(26));
        due("the last", 59, x.open(27));
        due("behind the last", 0, x.open(28));
    }

    private static void openNone() {
        says("open: 0 if there is none");
        due("no port", 0, withParts(1).open(0));
        due("none is open", 0, pair(0).open(0));
        int[] outside = {-1, -2, 30, 31, 60, Integer.MIN_VALUE, Integer.MAX_VALUE};
        PortRules x = withSixtyPorts(0);
        for (int i : outside) {
            due("open(" + i + ")", 0, x.open(i));
        }
        due("the last", 59, x.open(29));
        x.part(2);
        due("a composition's ports", 0, x.open(0));
    }

    // LANGUAGE.md, rule 7: no call throws by itself

    private static final int[] EXTREMES = {Integer.MIN_VALUE, Integer.MIN_VALUE + 1, -65, -64, -1, 0, 1, 30, 31,
        60, 61, 63, 64, 65, 127, Integer.MAX_VALUE - 1, Integer.MAX_VALUE};

    private static void noCallThrows() {
        says("IndexOutOfBoundsException .. of at, and nothing else");
        for (int a : EXTREMES) {
            for (int b : EXTREMES) {
                callAll(new PortRules(), a, b);
                callAll(row(1), a, b);
                callAll(withSixtyPorts(3), a, b);
            }
        }
    }

    private static void callAll(PortRules x, int a, int b) {
        x.part(a);
        x.port(a, b, true);
        x.unit(a, b, a, b);
        x.unit(1, 1, a, b);
        x.connect(a, b);
        x.manager(a, b);
        x.fallback(a, b);
        x.queue(a, b);
        x.version(a, b);
        x.open(a);
        x.flatten();
        x.check();
        try {
            x.at(a, b);
        } catch (IndexOutOfBoundsException e) {
            if (e.getClass() != IndexOutOfBoundsException.class) {
                fault("at(" + a + ", " + b + ") threw " + e.getClass());
            }
        }
    }

    private static void laterCallsThrowNothing() {
        says("what later calls answer is free");
        PortRules x = withSixtyPorts(1);
        for (int call = 0; call < 2000; call++) {
            callAll(x, EXTREMES[call % EXTREMES.length], call % 70 - 5);
        }
    }
}
