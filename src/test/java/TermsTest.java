/** The boundary cases that "What it is" and "Terms" name, each sentence with a test of its own. */
public final class TermsTest extends Answers {
    private static final int[] DATA_AND_MODE_KINDS = {0, 1, 3};

    public static void main(String[] args) {
        callsOfAnObject();
        partsFromOne();
        partsAtMostThirty();
        compositionMadeBefore();
        onTop();
        atomicWithNoPart();
        portsFromOne();
        portsAtMostSixty();
        eachPortOfAPart();
        kinds();
        providedOrRequired();
        connectorOfOneKind();
        connectorWays();
        acrossOnTop();
        acrossOfTwoParts();
        outToItsComposition();
        inFromItsComposition();
        flatNone();
        flatAll();
        flatOnlyAtomicEnds();
        flatSomeRow();
        flatLongestRow();
        flatEachTwoOnce();
        flatOrder();
        unitRange();
        scalingRange();
        versionRange();
        queueRange();
        atFirstNoUnit();
        atFirstNoVersion();
        atFirstNoFallback();
        atFirstNoQueue();
        partManagesModes();
        modeOfOnePart();
        end();
    }

    private static void callsOfAnObject() {
        says("An object is used for at most 512 calls after it has been made");
        PortRules x = withParts(30);
        for (int i = 1; i <= 60; i++) {
            x.port(i <= 30 ? 1 : 2, 0, i <= 30);
        }
        for (int call = 91; call <= 508; call++) {
            int pair = call - 91;
            due("connect in call " + call, 1, x.connect(1 + pair / 30, 31 + pair % 30));
        }
        due("flatten in call 509", 418, x.flatten());
        due("at in call 510", 58, x.at(417, 1));
        due("check in call 511", 0, x.check());
        due("open in call 512", 0, x.open(0));
    }

    // Parts

    private static void partsFromOne() {
        says("PARTS are numbered from 1 on");
        PortRules x = new PortRules();
        due("the first part", 1, x.part(0));
        due("the second part", 2, x.part(0));
        due("port of part 0", -1, x.port(0, 0, true));
        due("port of part 1", 1, x.port(1, 0, true));
        due("port of part 2", 2, x.port(2, 0, true));
        due("port of part 3", -1, x.port(3, 0, true));
    }

    private static void partsAtMostThirty() {
        says("PARTS .. at most 30");
        PortRules x = withParts(28);
        due("part 29", 29, x.part(0));
        due("part 30", 30, x.part(0));
        due("part 31", -4, x.part(0));
        due("port of part 30", 1, x.port(30, 0, true));
        due("port of part 31", -1, x.port(31, 0, true));
    }

    private static void compositionMadeBefore() {
        says("each in a COMPOSITION (another part made before)");
        PortRules x = new PortRules();
        due("in the part that it would be itself", -1, x.part(1));
        due("on top", 1, x.part(0));
        due("in the next part", -1, x.part(2));
        for (int number = 2; number <= 30; number++) {
            due("in the last part made", number, x.part(number - 1));
        }
        // Each part but the last has one in it now, so that only the last is atomic.
        for (int number = 1; number <= 30; number++) {
            x.port(number, 0, false);
        }
        due("the only open port", 30, x.open(0));
        due("no other open port", 0, x.open(1));
    }

    private static void onTop() {
        says("or on top (0)");
        PortRules x = new PortRules();
        due("on top in an empty object", 1, x.part(0));
        due("below the top", -1, x.part(-1));
        x.port(1, 0, false);
        due("on top once more", 2, x.part(0));
        due("part 1 has still no part in it", 1, x.open(0));
    }

    private static void atomicWithNoPart() {
        says("One with no part in it is ATOMIC");
        PortRules x = withParts(2);
        x.port(1, 0, false);
        x.port(2, 0, false);
        due("none in part 1", 1, x.open(0));
        x.part(1);
        due("one in part 1", 2, x.open(0));
        x.part(1);
        due("two in part 1", 2, x.open(0));
        x.port(3, 0, false);
        due("the inner part is atomic", 3, x.open(1));
        x.part(3);
        due("until it has one itself", 0, x.open(1));
        due("part 2 is atomic as before", 2, x.open(0));
    }

    // Ports

    private static void portsFromOne() {
        says("PORTS are numbered from 1 on");
        PortRules x = withParts(2);
        due("version of port 1 before it is made", -1, x.version(1, 0));
        due("the first port", 1, x.port(2, 0, true));
        due("the second port", 2, x.port(1, 0, true));
        due("version of port 0", -1, x.version(0, 0));
        due("version of port 1", 1, x.version(1, 0));
        due("version of port 2", 1, x.version(2, 0));
        due("version of port 3", -1, x.version(3, 0));
    }

    private static void portsAtMostSixty() {
        says("PORTS .. at most 60");
        PortRules x = withParts(30);
        for (int number = 1; number <= 58; number++) {
            x.port(1 + number % 30, 0, false);
        }
        due("port 59", 59, x.port(1, 0, false));
        due("port 60", 60, x.port(30, 0, false));
        due("port 61", -4, x.port(1, 0, false));
        due("version of port 60", 1, x.version(60, 0));
        due("version of port 61", -1, x.version(61, 0));
        due("the 60th open port", 60, x.open(59));
        due("a 61st open port", 0, x.open(60));
    }

    private static void eachPortOfAPart() {
        says("each of a part");
        PortRules x = withParts(30);
        due("of part 1", 1, x.port(1, 0, true));
        due("of part 30", 2, x.port(30, 0, false));
        due("they are of two parts", 1, x.connect(1, 2));
        due("of a composition", 3, compositionWithPorts(2).port(1, 0, true));
        due("of part 31", -1, x.port(31, 0, false));
    }

    /** Part 2 in part 1, and n ports of part 1. */
    private static PortRules compositionWithPorts(int n) {
        PortRules x = withParts(1);
        x.part(1);
        for (int i = 0; i < n; i++) {
            x.port(1, 0, true);
        }
        return x;
    }

    private static void kinds() {
        says("of a KIND: 0 .. 1 .. 2 .. 3 a mode");
        PortRules x = withParts(1);
        due("kind -1", -2, x.port(1, -1, false));
        due("kind 0", 1, x.port(1, 0, false));
        due("kind 1", 2, x.port(1, 1, false));
        due("kind 2", 3, x.port(1, 2, false));
        due("kind 3", 4, x.port(1, 3, false));
        due("kind 4", -2, x.port(1, 4, false));
        due("the least kind", -2, x.port(1, Integer.MIN_VALUE, false));
        due("the greatest kind", -2, x.port(1, Integer.MAX_VALUE, false));
        due("a queue for kind 0", -3, x.queue(1, 1));
        due("a queue for kind 1", 1, x.queue(2, 1));
        due("a queue for kind 2", -3, x.queue(3, 1));
        due("a queue for kind 3", -3, x.queue(4, 1));
    }

    private static void providedOrRequired() {
        says("PROVIDED or REQUIRED");
        for (int kind = 0; kind < 4; kind++) {
            PortRules x = withParts(1);
            x.port(1, kind, true);
            x.port(1, kind, false);
            due("fallback of a provided port of kind " + kind, -3, x.fallback(1, 1));
            due("fallback of a required port of kind " + kind, 0, x.fallback(2, 1));
            due("the open one of kind " + kind, 2, x.open(0));
        }
    }

    // Connectors

    private static void connectorOfOneKind() {
        says("A CONNECTOR leads from a port to another one of the same KIND");
        for (int from = 0; from < 4; from++) {
            for (int to = 0; to < 4; to++) {
                String kinds = " of kinds " + from + " and " + to;
                PortRules across = withParts(2);
                across.port(1, from, true);
                across.port(2, to, false);
                due("across" + kinds, from == to ? 1 : -2, across.connect(1, 2));
                due("flat" + kinds, from == to ? 1 : 0, across.flatten());
                PortRules inner = withParts(1);
                inner.part(1);
                inner.port(2, from, true);
                inner.port(1, to, true);
                inner.port(1, from, false);
                inner.port(2, to, false);
                due("out" + kinds, from == to ? 1 : -2, inner.connect(1, 2));
                due("in" + kinds, from == to ? 1 : -2, inner.connect(3, 4));
            }
        }
    }

    /**
     * Parts 1 and 2 on top, 3 and 4 in 1, 5 in 2, 6 in 3, 7 in 6; part p has the
     * required port 2p - 1 and the provided port 2p.
     */
    private static PortRules family() {
        PortRules x = withParts(2);
        x.part(1);
        x.part(1);
        x.part(2);
        x.part(3);
        x.part(6);
        for (int part = 1; part <= 7; part++) {
            x.port(part, 0, false);
            x.port(part, 0, true);
        }
        return x;
    }

    private static void connectorWays() {
        says("in one of three ways: ACROSS .. OUT .. IN");
        int[] compositions = {0, 0, 0, 1, 1, 2, 3, 6};
        for (int port = 1; port <= 14; port++) {
            PortRules x = family();
            for (int other = 1; other <= 14; other++) {
                int part = (port + 1) / 2;
                int otherPart = (other + 1) / 2;
                boolean provided = port % 2 == 0;
                boolean otherProvided = other % 2 == 0;
                boolean beside = part != otherPart && compositions[part] == compositions[otherPart];
                boolean across = provided && !otherProvided && beside;
                boolean out = provided && otherProvided && compositions[part] == otherPart;
                boolean in = !provided && !otherProvided && compositions[otherPart] == part;
                due("connect(" + port + ", " + other + ")", across || out || in ? 1 : -2, x.connect(port, other));
            }
        }
    }

    private static void acrossOnTop() {
        says("ACROSS: .. of two parts in the same COMPOSITION (or both on top)");
        PortRules x = family();
        due("both on top", 1, x.connect(2, 3));
        due("both in part 1", 1, x.connect(6, 7));
        due("in parts 1 and 2", -2, x.connect(6, 9));
        due("on top and in part 1", -2, x.connect(4, 5));
        due("in part 1 and on top", -2, x.connect(6, 3));
        due("in part 3, in part 1", -2, x.connect(12, 7));
    }

    private static void acrossOfTwoParts() {
        says("ACROSS: from a PROVIDED port to a REQUIRED one, of two parts");
        PortRules x = family();
        due("of one part on top", -2, x.connect(2, 1));
        due("of one part in part 1", -2, x.connect(8, 7));
        due("backwards", -2, x.connect(3, 2));
        due("required to required", -2, x.connect(1, 3));
        due("provided to provided", -2, x.connect(2, 4));
        due("from a port to itself", -2, x.connect(2, 2));
        due("nothing is connected", 0, x.flatten());
    }

    private static void outToItsComposition() {
        says("OUT: from a PROVIDED port of a part to a PROVIDED one of the COMPOSITION that it is in");
        PortRules x = family();
        due("by one level", 1, x.connect(14, 12));
        due("by one level again", 0, x.connect(14, 12));
        due("by two levels", -2, x.connect(14, 6));
        due("by three levels", -2, x.connect(14, 2));
        due("by no level", -2, x.connect(12, 12));
        due("inwards", -2, x.connect(12, 14));
        due("to another composition", -2, x.connect(10, 2));
        due("from provided to required", -2, x.connect(14, 11));
        due("from required to provided", -2, x.connect(13, 12));
    }

    private static void inFromItsComposition() {
        says("IN: from a REQUIRED port of a COMPOSITION to a REQUIRED one of a part in it");
        PortRules x = family();
        due("by one level", 1, x.connect(1, 5));
        due("by one level again", 0, x.connect(1, 5));
        due("by two levels", -2, x.connect(1, 11));
        due("by three levels", -2, x.connect(1, 13));
        due("by no level", -2, x.connect(1, 1));
        due("outwards", -2, x.connect(5, 1));
        due("from another composition", -2, x.connect(3, 5));
        due("from provided to required", -2, x.connect(2, 5));
        due("from required to provided", -2, x.connect(1, 6));
    }

    // Flat connectors

    private static void flatNone() {
        says("FLAT CONNECTORS: none");
        due("of an empty object", 0, new PortRules().flatten());
        dueThrow("the first of an empty object", new PortRules(), 0, 0);
        PortRules x = withParts(2);
        x.port(1, 0, true);
        x.port(2, 0, false);
        due("of ports without connectors", 0, x.flatten());
        dueThrow("the first of ports without connectors", x, 0, 1);
    }

    private static void flatAll() {
        says("from each PROVIDED port of an ATOMIC part to each REQUIRED port of an ATOMIC part");
        PortRules x = hub();
        due("29 times 29", 841, x.flatten());
        for (int i = 0; i < 841; i += 20) {
            due("first port of " + i, 2 + i / 29, x.at(i, 0));
            due("second port of " + i, 32 + i % 29, x.at(i, 1));
        }
        dueThrow("behind the last", x, 841, 0);
        due("none is open", 0, x.open(0));
    }

    /** Ports 2 to 30 of the part in part 1 go out by port 1, across to port 31, and in to ports 32 to 60. */
    private static PortRules hub() {
        PortRules x = withParts(2);
        x.part(1);
        x.part(2);
        x.port(1, 0, true);
        for (int port = 2; port <= 30; port++) {
            x.port(3, 0, true);
            x.connect(port, 1);
        }
        x.port(2, 0, false);
        for (int port = 32; port <= 60; port++) {
            x.port(4, 0, false);
            x.connect(31, port);
        }
        x.connect(1, 31);
        return x;
    }

    private static void flatOnlyAtomicEnds() {
        says("PROVIDED port of an ATOMIC part .. REQUIRED port of an ATOMIC part");
        PortRules x = pair(0);
        due("two atomic parts", 1, x.flatten());
        x.part(1);
        due("the first is a composition", 0, x.flatten());
        PortRules y = pair(0);
        y.part(2);
        due("the second is a composition", 0, y.flatten());
        PortRules z = row(0);
        due("only the ends of a row count", 1, z.flatten());
        due("its first port", 1, z.at(0, 0));
        due("its second port", 4, z.at(0, 1));
        z.part(2);
        due("the first end is a composition", 0, z.flatten());
    }

    private static void flatSomeRow() {
        says("to which some row of CONNECTORS leads");
        due("a row of one", 1, pair(0).flatten());
        PortRules x = outAcrossIn(0);
        x.connect(1, 2);
        x.connect(3, 4);
        due("a row with a gap", 0, x.flatten());
        x.connect(2, 3);
        due("a row of three", 1, x.flatten());
        PortRules y = withParts(3);
        y.part(1);
        y.port(4, 0, true);
        y.port(1, 0, true);
        y.port(2, 0, false);
        y.connect(2, 3);
        due("its beginning is missing", 0, y.flatten());
        y.connect(1, 2);
        due("a row of two, made from behind", 1, y.flatten());
        due("from the inner port", 1, y.at(0, 0));
    }

    private static void flatLongestRow() {
        says("some row of CONNECTORS, as long as thirty parts allow");
        PortRules x = withParts(2);
        for (int part = 3; part <= 30; part++) {
            x.part(part - 2);
        }
        for (int part = 1; part <= 30; part++) {
            x.port(part, 0, part % 2 == 1);
        }
        for (int part = 1; part <= 27; part += 2) {
            due("out from " + (part + 2), 1, x.connect(part + 2, part));
            due("in to " + (part + 3), 1, x.connect(part + 1, part + 3));
        }
        due("the middle is missing", 0, x.flatten());
        due("the middle", 1, x.connect(1, 2));
        due("29 connectors in a row", 1, x.flatten());
        due("the first port", 29, x.at(0, 0));
        due("the second port", 30, x.at(0, 1));
    }

    private static void flatEachTwoOnce() {
        says("each two once");
        PortRules x = row(0);
        x.port(1, 0, true);
        x.port(3, 0, false);
        x.connect(1, 5);
        x.connect(5, 3);
        x.connect(2, 6);
        x.connect(5, 6);
        x.connect(6, 4);
        due("four rows from port 1 to port 4", 1, x.flatten());
        due("the first port", 1, x.at(0, 0));
        due("the second port", 4, x.at(0, 1));
        dueThrow("a second one", x, 1, 0);
        PortRules y = pair(2);
        y.connect(1, 2);
        due("a connector told twice", 1, y.flatten());
        due("is no second server", 0, y.check());
    }

    private static void flatOrder() {
        says("by the first port, then by the second");
        PortRules x = withParts(2);
        for (int port = 1; port <= 60; port++) {
            x.port(port % 2 == 0 ? 1 : 2, 0, port % 2 == 0);
        }
        int[] rows = {60, 59, 2, 59, 60, 1, 30, 31, 2, 1};
        for (int i = 0; i < rows.length; i += 2) {
            x.connect(rows[i], rows[i + 1]);
        }
        int[] sorted = {2, 1, 2, 59, 30, 31, 60, 1, 60, 59};
        for (int i = 0; i < sorted.length; i++) {
            due("at(" + i / 2 + ", " + i % 2 + ")", sorted[i], x.at(i / 2, i % 2));
        }
    }

    // What a port and a part may have

    private static void unitRange() {
        says("A port may have a UNIT (0 .. 20)");
        PortRules x = pair(0);
        due("unit -1", -2, x.unit(1, -1, 1, 1));
        due("unit 0", 1, x.unit(1, 0, 1, 1));
        due("unit 1", 1, x.unit(1, 1, 1, 1));
        due("unit 19", 1, x.unit(1, 19, 1, 1));
        due("unit 20", 1, x.unit(1, 20, 1, 1));
        due("unit 21", -2, x.unit(1, 21, 1, 1));
        x.unit(2, 20, 1, 1);
        due("both have 20", 0, x.check());
    }

    private static void scalingRange() {
        says("with a SCALING up / down");
        PortRules x = pair(0);
        due("1 / 1", 1, x.unit(1, 0, 1, 1));
        due("1000 / 1000", 1, x.unit(2, 0, 1000, 1000));
        due("they are one scaling", 0, x.check());
        due("0 / 1", -2, x.unit(1, 0, 0, 1));
        due("1 / 0", -2, x.unit(1, 0, 1, 0));
        due("1001 / 1000", -2, x.unit(1, 0, 1001, 1000));
        due("1000 / 1001", -2, x.unit(1, 0, 1000, 1001));
    }

    private static void versionRange() {
        says("a VERSION (0 .. 9999)");
        PortRules x = pair(0);
        due("version -1", -2, x.version(2, -1));
        due("version 0", 1, x.version(2, 0));
        due("version 9999", 1, x.version(2, 9999));
        due("version 10000", -2, x.version(2, 10000));
        x.version(1, 9999);
        due("both have 9999", 0, x.check());
    }

    private static void queueRange() {
        says("a QUEUE (1 .. 100)");
        int[] lengths = {0, 1, 2, 99, 100, 101};
        for (int n : lengths) {
            boolean inside = n >= 1 && n <= 100;
            PortRules x = pair(1);
            due("queue " + n, inside ? 1 : -2, x.queue(2, n));
            due("a check behind it", inside ? 0 : 8002, x.check());
        }
    }

    private static void atFirstNoUnit() {
        says("at first none of these: no UNIT");
        due("none on both sides", 0, pair(0).check());
        PortRules x = pair(0);
        x.unit(1, 0, 1, 1);
        due("unit 0 on the first alone", 1002, x.check());
        PortRules y = pair(0);
        y.unit(2, 0, 1, 1);
        due("unit 0 on the second alone", 1002, y.check());
    }

    private static void atFirstNoVersion() {
        says("at first none of these: no VERSION");
        due("none on both sides", 0, pair(0).check());
        PortRules x = pair(0);
        x.version(1, 9999);
        due("none on the second", 0, x.check());
        PortRules y = pair(0);
        y.version(2, 0);
        due("none on the first", 4002, y.check());
    }

    private static void atFirstNoFallback() {
        says("at first none of these: no FALLBACK");
        for (int kind : DATA_AND_MODE_KINDS) {
            PortRules x = withParts(1);
            x.port(1, kind, false);
            due("an open port of kind " + kind, 5001, x.check());
            due("its fallback was", 0, x.fallback(1, 3));
        }
    }

    private static void atFirstNoQueue() {
        says("at first none of these: no QUEUE");
        due("a joined port of kind 1", 8002, pair(1).check());
    }

    private static void partManagesModes() {
        says("A part may MANAGE modes (0 .. 9)");
        PortRules x = withParts(30);
        due("mode -1", -2, x.manager(-1, 1));
        for (int mode = 0; mode <= 9; mode++) {
            due("mode " + mode, 1, x.manager(mode, 30));
        }
        due("mode 10", -2, x.manager(10, 1));
        for (int mode = 0; mode <= 9; mode++) {
            PortRules y = pair(3);
            y.manager(mode, 1);
            due("a check with mode " + mode + " managed", 0, y.check());
        }
    }

    private static void modeOfOnePart() {
        says("each mode is managed by one part");
        PortRules x = withParts(30);
        for (int mode = 0; mode <= 9; mode++) {
            int own = mode % 2 == 0 ? 1 : 30;
            due("mode " + mode, 1, x.manager(mode, own));
            due("mode " + mode + " by another part", 0, x.manager(mode, 31 - own));
            due("mode " + mode + " by the same part", 1, x.manager(mode, own));
        }
    }
}
