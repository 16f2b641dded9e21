/** At least one test for each promise of the document, by its number. */
public final class PromisesTest extends Answers {
    public static void main(String[] args) {
        newObject();
        partNumbersAndRefusals();
        partRoom();
        portNumbersAndRefusals();
        portRoom();
        lastPortHasAll();
        unitRefusals();
        unitRefusalChangesNothing();
        connectAcross();
        connectOutAndIn();
        connectRefusals();
        flattenOnlyAtomic();
        flattenEachTwoOnce();
        flattenFollowsNewParts();
        flattenDeep();
        flattenHighestPorts();
        atOrder();
        atOutside();
        checkUnits();
        checkScaling();
        checkVersions();
        checkFallbacks();
        checkServices();
        checkQueues();
        checkManagers();
        checkGoesRuleByRule();
        checkSkipsCompositions();
        managerAnswers();
        fallbackAnswers();
        queueAnswers();
        versionAnswers();
        openAnswers();
        end();
    }

    // Promise 1

    private static void newObject() {
        PortRules x = new PortRules();
        due("1: flatten", 0, x.flatten());
        due("1: check", 0, x.check());
        due("1: open", 0, x.open(0));
        dueThrow("1: at", x, 0, 0);
        due("1: port of no part", -1, x.port(1, 0, true));
        due("1: version of no port", -1, x.version(1, 1));
        due("1: first part", 1, x.part(0));
        due("1: another object's first part", 1, new PortRules().part(0));
    }

    // Promise 2

    private static void partNumbersAndRefusals() {
        PortRules x = new PortRules();
        due("2: a part not made yet", -1, x.part(1));
        due("2: first", 1, x.part(0));
        due("2: inner", 2, x.part(1));
        due("2: itself", -1, x.part(3));
        due("2: next", 3, x.part(2));
        for (int number : WRONG_NUMBERS) {
            if (number != 0) {
                due("2: part(" + number + ")", -1, x.part(number));
            }
        }
    }

    private static void partRoom() {
        PortRules x = withParts(29);
        due("2: 30th", 30, x.part(29));
        due("2: 31st", -4, x.part(0));
        due("2: 31st in a part", -4, x.part(30));
        due("2: unknown goes before no room", -1, x.part(31));
        x.port(30, 0, false);
        due("2: a refused part leaves 30 atomic", 1, x.open(0));
    }

    // Promise 3

    private static void portNumbersAndRefusals() {
        PortRules x = withParts(2);
        for (int number : WRONG_NUMBERS) {
            due("3: port(" + number + ")", -1, x.port(number, 0, true));
        }
        due("3: part 3", -1, x.port(3, 0, true));
        due("3: unknown goes before range", -1, x.port(3, 4, true));
        due("3: kind 4", -2, x.port(1, 4, true));
        due("3: kind -1", -2, x.port(1, -1, false));
        due("3: kind 0", 1, x.port(1, 0, true));
        due("3: kind 3", 2, x.port(2, 3, false));
    }

    private static void portRoom() {
        PortRules x = withParts(1);
        for (int i = 1; i <= 60; i++) {
            due("3: port " + i, i, x.port(1, i % 4, i % 2 == 0));
        }
        due("3: 61st", -4, x.port(1, 0, true));
        due("3: range goes before no room", -2, x.port(1, 4, true));
        due("3: unknown goes before no room", -1, x.port(2, 0, true));
        due("3: port 61 is none", -1, x.version(61, 1));
    }

    private static void lastPortHasAll() {
        PortRules x = withParts(2);
        for (int i = 1; i <= 58; i++) {
            x.port(1, 0, true);
        }
        due("3: port 59", 59, x.port(1, 1, true));
        due("3: port 60", 60, x.port(2, 1, false));
        due("5: connect to port 60", 1, x.connect(59, 60));
        due("5: connect from port 60", -2, x.connect(60, 59));
        due("4: unit of port 60", 1, x.unit(60, 20, 4, 2));
        due("4: unit of port 59", 1, x.unit(59, 20, 4, 1));
        due("12: version of port 60", 1, x.version(60, 100));
        due("12: version of port 59", 1, x.version(59, 199));
        due("10: fallback of port 60", 0, x.fallback(60, 8));
        due("8: rule 8 at port 60", 8060, x.check());
        due("11: queue of port 60", 1, x.queue(60, 100));
        due("8: all is there", 0, x.check());
        due("10: fallback of port 60 again", 8, x.fallback(60, 9));
        PortRules y = withParts(2);
        for (int i = 1; i <= 59; i++) {
            y.port(2, 0, false);
        }
        y.port(1, 0, true);
        due("5: connect from the provided port 60", 1, y.connect(60, 59));
        due("5: and again", 0, y.connect(60, 59));
        due("13: the last port leads to 59", 58, y.open(57));
        due("13: so it is not open", 0, y.open(58));
    }

    // Promise 4

    private static void unitRefusals() {
        PortRules x = pair(0);
        for (int number : WRONG_NUMBERS) {
            due("4: port " + number, -1, x.unit(number, 1, 1, 1));
        }
        due("4: port 3", -1, x.unit(3, 1, 1, 1));
        due("4: unknown goes before range", -1, x.unit(3, 21, 0, 0));
        due("4: unit -1", -2, x.unit(1, -1, 1, 1));
        due("4: unit 21", -2, x.unit(1, 21, 1, 1));
        due("4: up 0", -2, x.unit(1, 1, 0, 1));
        due("4: up 1001", -2, x.unit(1, 1, 1001, 1));
        due("4: down 0", -2, x.unit(1, 1, 1, 0));
        due("4: down 1001", -2, x.unit(1, 1, 1, 1001));
        due("4: up beyond int", -2, x.unit(1, 1, (1L << 32) + 1, 1));
        due("4: down beyond int", -2, x.unit(1, 1, 1, (1L << 32) + 1));
        due("4: down the least", -2, x.unit(1, 1, 1, Long.MIN_VALUE));
        due("4: unit 0", 1, x.unit(1, 0, 1, 1));
        due("4: unit 20", 1, x.unit(2, 20, 1000, 1000));
        due("4: on a provided port as on a required one", 1, x.unit(1, 20, 1000, 1));
    }

    private static void unitRefusalChangesNothing() {
        PortRules x = pair(0);
        x.unit(1, 21, 1, 1);
        x.unit(1, 1, 0, 1);
        due("4: refused, so no unit", 0, x.check());
        x.unit(1, 5, 6, 1);
        x.unit(2, 5, 3, 1);
        x.unit(1, 5, 7, 1001);
        due("4: refused, so the scaling stays", 0, x.check());
    }

    // Promise 5

    private static void connectAcross() {
        PortRules x = new PortRules();
        x.part(0);
        x.part(0);
        x.part(1);
        x.part(1);
        x.part(2);
        x.port(1, 0, true);
        x.port(2, 0, false);
        x.port(3, 0, true);
        x.port(4, 0, false);
        x.port(5, 0, false);
        x.port(3, 0, false);
        due("5: across on top", 1, x.connect(1, 2));
        due("5: across in a composition", 1, x.connect(3, 4));
        due("5: again", 0, x.connect(3, 4));
        x.port(4, 0, false);
        due("5: to a second port", 1, x.connect(3, 7));
        due("5: the one before is still there", 0, x.connect(3, 4));
        due("5: and so is the second", 0, x.connect(3, 7));
        due("5: backwards", -2, x.connect(4, 3));
        due("5: of two compositions", -2, x.connect(3, 5));
        due("5: across two levels", -2, x.connect(3, 2));
        due("5: from a composition across to an inner part", -2, x.connect(1, 4));
        due("5: of one part, not two", -2, x.connect(3, 6));
        due("5: to itself", -2, x.connect(3, 3));
    }

    private static void connectOutAndIn() {
        PortRules x = new PortRules();
        x.part(0);
        x.part(1);
        x.part(2);
        x.part(0);
        x.port(1, 1, true);
        x.port(2, 1, true);
        x.port(3, 1, true);
        x.port(1, 1, false);
        x.port(2, 1, false);
        x.port(3, 1, false);
        x.port(4, 1, true);
        x.port(4, 1, false);
        due("5: out", 1, x.connect(2, 1));
        due("5: out again", 0, x.connect(2, 1));
        due("5: out reversed", -2, x.connect(1, 2));
        due("5: out by two levels", -2, x.connect(3, 1));
        due("5: in", 1, x.connect(4, 5));
        due("5: in again", 0, x.connect(4, 5));
        due("5: in reversed", -2, x.connect(5, 4));
        due("5: in by two levels", -2, x.connect(4, 6));
        due("5: provided of the composition to required inside", -2, x.connect(1, 5));
        due("5: provided inside to required of the composition", -2, x.connect(2, 4));
        due("5: required of the composition to provided inside", -2, x.connect(4, 2));
        due("5: provided to provided beside", -2, x.connect(7, 1));
        due("5: required to required beside", -2, x.connect(8, 4));
    }

    private static void connectRefusals() {
        PortRules x = withParts(2);
        for (int kind = 0; kind < 4; kind++) {
            x.port(1, kind, true);
            x.port(2, kind, false);
        }
        for (int from = 0; from < 4; from++) {
            for (int to = 0; to < 4; to++) {
                due("5: kinds " + from + " and " + to, from == to ? 1 : -2, x.connect(2 * from + 1, 2 * to + 2));
            }
        }
        for (int number : WRONG_NUMBERS) {
            due("5: first is " + number, -1, x.connect(number, 1));
            due("5: second is " + number, -1, x.connect(2, number));
        }
        due("5: nothing more is connected", 4, x.flatten());
    }

    // Promise 6

    private static void flattenOnlyAtomic() {
        PortRules x = outAcrossIn(0);
        x.connect(3, 4);
        due("6: in alone", 0, x.flatten());
        x.connect(1, 2);
        due("6: out and in alone", 0, x.flatten());
        x.connect(2, 3);
        due("6: the row is whole", 1, x.flatten());
        due("6: its first port", 1, x.at(0, 0));
        due("6: its second port", 4, x.at(0, 1));
        x.port(3, 0, true);
        x.port(1, 0, false);
        x.connect(5, 6);
        due("6: among compositions alone", 1, x.flatten());
    }

    private static void flattenEachTwoOnce() {
        PortRules x = outAcrossIn(0);
        x.port(1, 0, true);
        x.connect(1, 2);
        x.connect(1, 5);
        x.connect(2, 3);
        x.connect(5, 3);
        x.connect(3, 4);
        due("6: two rows of connectors, one flat one", 1, x.flatten());
        x.port(2, 0, true);
        x.connect(6, 5);
        due("6: two first ports", 2, x.flatten());
        x.port(4, 0, false);
        x.connect(3, 7);
        due("6: two first and two second ports", 4, x.flatten());
    }

    private static void flattenFollowsNewParts() {
        PortRules x = pair(0);
        due("6: both atomic", 1, x.flatten());
        x.part(1);
        due("6: the first is a composition now", 0, x.flatten());
        x.port(3, 0, true);
        x.connect(3, 1);
        due("6: a new part behind it", 1, x.flatten());
        due("6: is the first", 3, x.at(0, 0));
        x.port(1, 0, true);
        due("6: a port made at a composition", 1, x.connect(4, 2));
        due("6: is not flat", 1, x.flatten());
        x.part(2);
        due("6: the second is a composition now", 0, x.flatten());
    }

    private static void flattenDeep() {
        PortRules x = withParts(2);
        x.port(1, 3, true);
        x.port(2, 3, false);
        x.connect(1, 2);
        int up = 1;
        int down = 2;
        for (int part = 3; part <= 29; part += 2) {
            x.part(part - 2);
            x.part(part - 1);
            int innerUp = x.port(part, 3, true);
            int innerDown = x.port(part + 1, 3, false);
            x.connect(innerUp, up);
            x.connect(down, innerDown);
            up = innerUp;
            down = innerDown;
        }
        due("6: through fourteen compositions on each side", 1, x.flatten());
        due("6: deepest first", up, x.at(0, 0));
        due("6: deepest second", down, x.at(0, 1));
    }

    private static void flattenHighestPorts() {
        PortRules x = withParts(2);
        for (int i = 1; i <= 60; i++) {
            x.port(i <= 30 ? 1 : 2, 0, i <= 30);
        }
        for (int from = 30; from >= 17; from--) {
            for (int to = 60; to >= 31; to--) {
                x.connect(from, to);
            }
        }
        due("6: 14 times 30", 420, x.flatten());
        for (int i = 0; i < 420; i += 59) {
            due("7: first of " + i, 17 + i / 30, x.at(i, 0));
            due("7: second of " + i, 31 + i % 30, x.at(i, 1));
        }
        due("7: last", 60, x.at(419, 1));
        dueThrow("7: behind the last", x, 420, 1);
    }

    // Promise 7

    private static void atOrder() {
        PortRules x = withParts(2);
        x.port(2, 0, false);
        x.port(1, 0, true);
        x.port(2, 0, false);
        x.port(1, 0, true);
        x.connect(4, 3);
        x.connect(2, 3);
        x.connect(4, 1);
        x.connect(2, 1);
        int[] pairs = {2, 1, 2, 3, 4, 1, 4, 3};
        for (int i = 0; i < 4; i++) {
            due("7: first of " + i, pairs[2 * i], x.at(i, 0));
            due("7: second of " + i, pairs[2 * i + 1], x.at(i, 1));
        }
        due("7: what 2", 1, x.at(0, 2));
        due("7: what -1", 1, x.at(0, -1));
        due("7: the least what", 1, x.at(0, Integer.MIN_VALUE));
    }

    private static void atOutside() {
        PortRules x = pair(2);
        due("7: the only one", 2, x.at(0, 1));
        dueThrow("7: at 1", x, 1, 0);
        dueThrow("7: at -1", x, -1, 0);
        dueThrow("7: at the least", x, Integer.MIN_VALUE, 1);
        dueThrow("7: at the most", x, Integer.MAX_VALUE, 1);
    }

    // Promise 8

    private static void checkUnits() {
        PortRules x = pair(0);
        x.unit(2, 0, 1, 1);
        due("8: rule 1, the second alone has a unit", 1002, x.check());
        x.unit(1, 1, 1, 1);
        due("8: rule 2", 2002, x.check());
        x.unit(1, 0, 1, 1);
        due("8: one unit", 0, x.check());
        PortRules y = pair(0);
        y.unit(1, 0, 1, 1);
        due("8: rule 1, the first alone has unit 0", 1002, y.check());
        PortRules z = pair(3);
        z.manager(0, 1);
        z.unit(1, 0, 1, 1);
        due("8: rule 1 is for all kinds", 1002, z.check());
    }

    private static void checkScaling() {
        PortRules x = pair(0);
        x.unit(1, 7, 1000, 1);
        x.unit(2, 7, 1, 1000);
        due("8: 1000000 by 1", 0, x.check());
        x.unit(1, 7, 1, 1000);
        x.unit(2, 7, 1000, 1);
        due("8: rule 3, 1 by 1000000", 3002, x.check());
        x.unit(1, 7, 3, 2);
        x.unit(2, 7, 3, 2);
        due("8: 6 by 6", 0, x.check());
        x.unit(2, 7, 2, 3);
        due("8: rule 3, 9 by 4", 3002, x.check());
        x.unit(2, 7, 1, 4);
        due("8: 12 by 2", 0, x.check());
        x.unit(2, 7, 4, 1);
        due("8: rule 3, 3 by 8", 3002, x.check());
        x.unit(1, 7, 1, 1);
        x.unit(2, 7, 2, 2);
        due("8: 2 by 2", 0, x.check());
    }

    private static void checkVersions() {
        int[][] cases = {{0, 0, 1}, {99, 0, 1}, {100, 0, 0}, {100, 99, 0}, {250, 250, 1}, {249, 250, 0},
            {251, 250, 1}, {299, 200, 1}, {300, 299, 0}, {9999, 9900, 1}, {199, 200, 0}};
        for (int[] c : cases) {
            PortRules x = pair(0);
            x.version(1, c[0]);
            x.version(2, c[1]);
            due("8: rule 4, " + c[0] + " for " + c[1], c[2] == 1 ? 0 : 4002, x.check());
        }
        PortRules x = pair(0);
        x.version(1, 5);
        due("8: only the first has a version", 0, x.check());
        PortRules y = pair(0);
        y.version(2, 0);
        due("8: rule 4, only the second has one", 4002, y.check());
    }

    private static void checkFallbacks() {
        for (int kind = 0; kind < 4; kind++) {
            PortRules x = withParts(1);
            x.port(1, kind, true);
            due("8: an open provided port of kind " + kind, 0, x.check());
            x.port(1, kind, false);
            x.queue(2, 1);
            due("8: rules 5 and 6, kind " + kind, kind == 2 ? 6002 : 5002, x.check());
            x.fallback(2, 0);
            due("8: with fallback 0, kind " + kind, kind == 2 ? 6002 : 0, x.check());
        }
        due("8: a port that is reached needs no fallback", 0, pair(0).check());
    }

    private static void checkServices() {
        PortRules x = pair(2);
        due("8: one service", 0, x.check());
        x.port(1, 2, true);
        x.connect(3, 2);
        due("8: rule 7, two services", 7002, x.check());
        x.port(2, 2, false);
        due("8: rule 6 goes before 7", 6004, x.check());
        x.connect(3, 4);
        due("8: one provided service for two", 7002, x.check());
        PortRules y = pair(0);
        y.port(1, 0, true);
        y.connect(3, 2);
        due("8: data may come from two", 0, y.check());
    }

    private static void checkQueues() {
        PortRules x = pair(1);
        due("8: rule 8", 8002, x.check());
        x.queue(1, 5);
        due("8: rule 8, the first port's queue is no help", 8002, x.check());
        x.queue(2, 5);
        due("8: with a queue", 0, x.check());
        PortRules y = withParts(1);
        y.port(1, 1, false);
        y.fallback(1, 7);
        due("8: rule 8 for an open port too", 8001, y.check());
    }

    private static void checkManagers() {
        PortRules x = pair(3);
        due("8: rule 9", 9002, x.check());
        x.manager(9, 2);
        due("8: rule 9, the second part manages", 9002, x.check());
        x.manager(9, 1);
        due("8: rule 9, the mode is another one's", 9002, x.check());
        x.manager(0, 1);
        due("8: mode 0 is managed", 0, x.check());
        PortRules y = outAcrossIn(0);
        y.port(2, 3, true);
        y.port(1, 3, true);
        y.port(3, 3, false);
        y.port(4, 3, false);
        y.connect(5, 6);
        y.connect(6, 7);
        y.connect(7, 8);
        y.fallback(4, 0);
        y.manager(3, 1);
        due("8: rule 9, the composition manages", 9008, y.check());
        y.manager(9, 2);
        due("8: mode 9 is managed by the atomic part", 0, y.check());
        due("8: data needs no manager", 0, pair(0).check());
    }

    private static void checkGoesRuleByRule() {
        PortRules x = withParts(2);
        x.port(2, 3, false);
        x.port(2, 3, false);
        x.port(2, 3, false);
        x.port(1, 3, true);
        x.port(1, 3, true);
        x.connect(4, 3);
        x.connect(4, 2);
        x.connect(5, 1);
        x.fallback(1, 1);
        due("8: by the first port, not the second", 9002, x.check());
        x.version(1, 1);
        due("8: 4 before 9", 4001, x.check());
        x.unit(4, 1, 1, 1);
        x.unit(2, 1, 2, 1);
        due("8: 1 before 3 and 4", 1003, x.check());
        x.unit(3, 2, 1, 1);
        due("8: 2 before 3 and 4", 2003, x.check());
        x.unit(3, 1, 1, 1);
        due("8: 3 before 4", 3002, x.check());
        x.unit(2, 1, 1, 1);
        x.port(2, 1, false);
        due("8: 4 before 5", 4001, x.check());
        x.version(5, 1);
        due("8: 5 before 8", 5006, x.check());
        x.fallback(6, 1);
        x.port(2, 2, false);
        due("8: 6 before 8", 6007, x.check());
        x.part(0);
        x.port(3, 2, true);
        x.port(3, 2, true);
        x.connect(8, 7);
        x.connect(9, 7);
        due("8: 7 before 8", 7007, x.check());
        x.port(2, 2, false);
        due("8: 6 at a later port before 7", 6010, x.check());
        x.part(3);
        x.port(2, 0, false);
        due("8: 5 at a later port before 6", 5011, x.check());
        x.fallback(11, 0);
        due("8: no service leads any longer", 6007, x.check());
    }

    private static void checkSkipsCompositions() {
        PortRules x = withParts(1);
        for (int kind = 0; kind < 4; kind++) {
            x.port(1, kind, false);
        }
        due("8: atomic", 5001, x.check());
        x.part(1);
        due("8: a composition's ports break nothing", 0, x.check());
        x.port(1, 0, false);
        due("8: nor does a later one", 0, x.check());
        PortRules y = outAcrossIn(0);
        y.connect(1, 2);
        y.connect(2, 3);
        y.connect(3, 4);
        y.unit(2, 1, 1, 1);
        y.version(3, 1);
        due("8: units and versions on the way do not count", 0, y.check());
        y.unit(1, 1, 1, 1);
        due("8: those at the ends do", 1004, y.check());
    }

    // Promise 9

    private static void managerAnswers() {
        PortRules x = withParts(2);
        for (int number : WRONG_NUMBERS) {
            due("9: part " + number, -1, x.manager(0, number));
        }
        due("9: part 3", -1, x.manager(0, 3));
        due("9: unknown goes before range", -1, x.manager(10, 3));
        due("9: mode 10", -2, x.manager(10, 1));
        due("9: mode -1", -2, x.manager(-1, 1));
        due("9: the least mode", -2, x.manager(Integer.MIN_VALUE, 1));
        due("9: mode 0", 1, x.manager(0, 2));
        due("9: it did already", 1, x.manager(0, 2));
        due("9: another does", 0, x.manager(0, 1));
        due("9: nothing changed", 1, x.manager(0, 2));
        due("9: a second mode", 1, x.manager(9, 2));
        due("9: another mode", 1, x.manager(8, 1));
    }

    // Promise 10

    private static void fallbackAnswers() {
        PortRules x = withParts(1);
        x.port(1, 0, false);
        x.port(1, 0, true);
        x.port(1, 2, false);
        for (int number : WRONG_NUMBERS) {
            due("10: port " + number, -1, x.fallback(number, 1));
        }
        due("10: port 4", -1, x.fallback(4, 1));
        due("10: provided", -3, x.fallback(2, 1));
        due("10: at first", 0, x.fallback(1, Integer.MIN_VALUE));
        due("10: the least", Integer.MIN_VALUE, x.fallback(1, Integer.MAX_VALUE));
        due("10: the most", Integer.MAX_VALUE, x.fallback(1, -1));
        due("10: -1", -1, x.fallback(1, 0));
        due("10: 0", 0, x.fallback(1, 5));
        due("10: a service", 0, x.fallback(3, 7));
        due("10: a service again", 7, x.fallback(3, 8));
        due("10: the other port", 5, x.fallback(1, 6));
    }

    // Promise 11

    private static void queueAnswers() {
        PortRules x = withParts(1);
        for (int kind = 0; kind < 4; kind++) {
            x.port(1, kind, false);
        }
        x.port(1, 1, true);
        for (int number : WRONG_NUMBERS) {
            due("11: port " + number, -1, x.queue(number, 1));
        }
        due("11: port 6", -1, x.queue(6, 1));
        due("11: unknown goes before range", -1, x.queue(6, 0));
        for (int kind = 0; kind < 4; kind++) {
            int port = kind + 1;
            due("11: n 0, kind " + kind, -2, x.queue(port, 0));
            due("11: n 101, kind " + kind, -2, x.queue(port, 101));
            due("11: n -1, kind " + kind, -2, x.queue(port, -1));
            due("11: n 1, kind " + kind, kind == 1 ? 1 : -3, x.queue(port, 1));
            due("11: n 100, kind " + kind, kind == 1 ? 1 : -3, x.queue(port, 100));
        }
        due("11: a provided port", 1, x.queue(5, 50));
        PortRules y = pair(1);
        y.queue(2, 101);
        y.queue(2, 0);
        due("11: refused, so no queue", 8002, y.check());
    }

    // Promise 12

    private static void versionAnswers() {
        PortRules x = pair(0);
        for (int number : WRONG_NUMBERS) {
            due("12: port " + number, -1, x.version(number, 1));
        }
        due("12: port 3", -1, x.version(3, 1));
        due("12: unknown goes before range", -1, x.version(3, -1));
        due("12: v -1", -2, x.version(2, -1));
        due("12: v 10000", -2, x.version(2, 10000));
        due("12: the least v", -2, x.version(2, Integer.MIN_VALUE));
        due("12: refused, so no version", 0, x.check());
        due("12: v 0", 1, x.version(2, 0));
        due("12: v 9999", 1, x.version(2, 9999));
        due("12: the new one counts", 4002, x.check());
        due("12: of the first", 1, x.version(1, 9999));
        due("12: they fit", 0, x.check());
        x.version(1, 10000);
        due("12: refused, so it stays", 0, x.check());
    }

    // Promise 13

    private static void openAnswers() {
        due("13: the first port leads to the only one", 0, pair(0).open(0));
        PortRules x = withParts(3);
        x.port(1, 2, false);
        x.port(1, 0, true);
        x.port(2, 0, false);
        x.port(3, 1, false);
        x.port(3, 3, false);
        x.fallback(4, 1);
        int[] all = {1, 3, 4, 5, 0, 0};
        for (int i = 0; i < all.length; i++) {
            due("13: open(" + i + ")", all[i], x.open(i));
        }
        due("13: open(-1)", 0, x.open(-1));
        due("13: the least", 0, x.open(Integer.MIN_VALUE));
        due("13: the most", 0, x.open(Integer.MAX_VALUE));
        x.connect(2, 3);
        due("13: one is reached", 4, x.open(1));
        x.part(1);
        due("13: its source is a composition now", 3, x.open(0));
        due("13: and the next", 4, x.open(1));
        x.port(1, 0, false);
        due("13: no port of a composition", 0, x.open(3));
    }
}
