/** The boundary cases of THE RULES, each sentence with a test of its own. */
public final class RulesTest extends Answers {
    public static void main(String[] args) {
        noRuleBroken();
        toldByRuleAndPort();
        secondPortIsTold();
        flatConnectorsInOrder();
        portsByNumbers();
        rulesInOrder();
        ruleBeforePort();
        onlyFlatConnectors();
        onlyRequiredPortsOfAtomicParts();
        rule1();
        rule2();
        rule3();
        rule3Products();
        rule3NotWithoutUnits();
        rule4Hundreds();
        rule4NotLess();
        rule4None();
        rule5();
        rule5Kinds();
        rule6();
        rule7();
        rule8();
        rule8Kinds();
        rule9();
        rule9PartOfTheFirst();
        rule9Kinds();
        firstFourForAllKinds();
        end();
    }

    // How a broken rule is told

    private static void noRuleBroken() {
        says("0 if no RULE is broken");
        due("an empty object", 0, new PortRules().check());
        due("thirty parts", 0, withParts(30).check());
        PortRules x = withParts(1);
        for (int port = 1; port <= 60; port++) {
            x.port(1, port % 4, true);
        }
        due("sixty provided ports", 0, x.check());
        due("one flat connector", 0, pair(0).check());
    }

    private static void toldByRuleAndPort() {
        says("told by 1000 times the rule and the port's number");
        PortRules x = withParts(1);
        x.port(1, 0, false);
        due("rule 5, port 1", 5001, x.check());
        for (int rule = 1; rule <= 9; rule++) {
            due("rule " + rule + ", port 60", 1000 * rule + 60, breaking(rule).check());
        }
    }

    /** Only one rule is broken, at port 60, to which port 59 leads. */
    private static PortRules breaking(int rule) {
        int kind = rule == 6 || rule == 7 ? 2 : rule == 8 ? 1 : rule == 9 ? 3 : 0;
        PortRules x = withParts(2);
        for (int port = 1; port <= 59; port++) {
            x.port(1, kind, true);
        }
        x.port(2, kind, false);
        if (rule != 5 && rule != 6) {
            x.connect(59, 60);
        }
        if (rule == 7) {
            x.connect(1, 60);
        }
        if (rule <= 3) {
            x.unit(60, 3, 2, 1);
        }
        if (rule == 2 || rule == 3) {
            x.unit(59, rule == 3 ? 3 : 4, 1, 1);
        }
        if (rule == 4) {
            x.version(60, 0);
        }
        return x;
    }

    private static void secondPortIsTold() {
        says("(of a FLAT CONNECTOR the second one)");
        PortRules x = withParts(2);
        x.port(2, 0, false);
        x.port(1, 0, true);
        x.connect(2, 1);
        x.unit(2, 0, 1, 1);
        due("the second is port 1", 1001, x.check());
        PortRules y = row(0);
        y.unit(1, 0, 1, 1);
        due("the end of the row, not the next port", 1004, y.check());
    }

    private static void flatConnectorsInOrder() {
        says("looked at for all FLAT CONNECTORS in their order");
        PortRules x = withParts(2);
        x.port(2, 0, false);
        x.port(1, 0, true);
        x.port(2, 0, false);
        x.port(2, 0, false);
        x.port(1, 0, true);
        x.connect(5, 1);
        x.connect(2, 4);
        x.connect(2, 3);
        x.version(1, 1);
        x.version(3, 1);
        x.version(4, 1);
        due("all three break rule 4", 4003, x.check());
        x.version(2, 101);
        due("port 2 has another version", 4003, x.check());
        x.version(3, 101);
        due("the second is the first that breaks it", 4004, x.check());
        x.version(4, 100);
        due("the last alone breaks it", 4001, x.check());
        x.version(5, 1);
        due("none breaks it", 0, x.check());
    }

    private static void portsByNumbers() {
        says("or all REQUIRED ports of ATOMIC parts by numbers");
        PortRules x = withParts(3);
        x.port(3, 0, false);
        x.port(1, 0, false);
        x.port(2, 0, false);
        due("three open ports", 5001, x.check());
        x.fallback(1, 0);
        due("the first has a fallback", 5002, x.check());
        x.fallback(2, 0);
        due("the second too", 5003, x.check());
        x.fallback(3, 0);
        due("all have one", 0, x.check());
    }

    private static void rulesInOrder() {
        says("THE RULES, in their order");
        // All nine are broken at once, and each is mended in its turn.
        PortRules x = withParts(3);
        x.port(1, 3, true);
        x.port(2, 3, false);
        x.port(2, 0, false);
        x.port(2, 2, false);
        x.port(2, 2, false);
        x.port(1, 2, true);
        x.port(3, 2, true);
        x.port(2, 1, false);
        x.port(1, 1, true);
        x.connect(1, 2);
        x.connect(6, 5);
        x.connect(7, 5);
        x.connect(9, 8);
        x.version(2, 5);
        x.unit(2, 1, 2, 1);
        due("rule 1", 1002, x.check());
        x.unit(1, 2, 1, 1);
        due("rule 2", 2002, x.check());
        x.unit(1, 1, 1, 1);
        due("rule 3", 3002, x.check());
        x.unit(1, 1, 2, 1);
        due("rule 4", 4002, x.check());
        x.version(1, 5);
        due("rule 5", 5003, x.check());
        x.fallback(3, 0);
        due("rule 6", 6004, x.check());
        x.connect(6, 4);
        due("rule 7", 7005, x.check());
        x.part(3);
        due("rule 8", 8008, x.check());
        x.queue(8, 1);
        due("rule 9", 9002, x.check());
        x.manager(0, 1);
        due("no rule", 0, x.check());
    }

    private static void ruleBeforePort() {
        says("each is looked at for all .. the first thing that breaks one");
        PortRules x = withParts(2);
        x.port(2, 1, false);
        x.port(2, 2, false);
        x.port(2, 0, false);
        x.port(1, 1, true);
        x.connect(4, 1);
        due("5 at port 3 before 6 at 2 and 8 at 1", 5003, x.check());
        x.fallback(3, 1);
        due("6 at port 2 before 8 at 1", 6002, x.check());
        x.port(1, 2, true);
        x.connect(5, 2);
        due("8 at port 1", 8001, x.check());
        x.version(1, 0);
        due("4 at port 1", 4001, x.check());
        x.unit(5, 0, 1, 1);
        due("1 at the last flat connector before 4 at the first", 1002, x.check());
    }

    private static void onlyFlatConnectors() {
        says("FLAT CONNECTORS alone");
        PortRules x = row(0);
        x.unit(2, 0, 1, 1);
        x.version(3, 9999);
        x.version(2, 0);
        due("what compositions have does not count", 0, x.check());
        PortRules y = pair(0);
        y.unit(1, 0, 1, 1);
        y.part(1);
        y.fallback(2, 0);
        due("a connector that is no longer flat", 0, y.check());
        PortRules z = withParts(2);
        z.port(1, 0, true);
        z.port(2, 0, false);
        z.fallback(2, 0);
        z.unit(1, 0, 1, 1);
        z.version(2, 1);
        due("ports without a connector", 0, z.check());
    }

    private static void onlyRequiredPortsOfAtomicParts() {
        says("all REQUIRED ports of ATOMIC parts");
        for (int kind = 0; kind < 4; kind++) {
            PortRules x = withParts(1);
            x.port(1, kind, true);
            due("a provided port of kind " + kind, 0, x.check());
            x.port(1, kind, false);
            due("a required one of kind " + kind, kind == 2 ? 6002 : 5002, x.check());
            x.part(1);
            due("a composition's of kind " + kind, 0, x.check());
        }
        PortRules x = row(1);
        due("a composition's port needs no queue", 8004, x.check());
        x.queue(4, 1);
        due("only the atomic part's does", 0, x.check());
    }

    // Rules 1 to 4

    private static void rule1() {
        says("1 both ports of a FLAT CONNECTOR have a UNIT, or none");
        due("none", 0, pair(0).check());
        for (int u = 0; u <= 20; u++) {
            PortRules first = pair(0);
            first.unit(1, u, 1, 1);
            due("the first alone has unit " + u, 1002, first.check());
            PortRules second = pair(0);
            second.unit(2, u, 1, 1);
            due("the second alone has unit " + u, 1002, second.check());
            second.unit(1, u, 1, 1);
            due("both have unit " + u, 0, second.check());
        }
    }

    private static void rule2() {
        says("2 these are one");
        for (int first = 0; first <= 20; first++) {
            PortRules x = pair(0);
            x.unit(1, first, 1, 1);
            for (int second = 0; second <= 20; second++) {
                x.unit(2, second, 1, 1);
                due("units " + first + " and " + second, first == second ? 0 : 2002, x.check());
            }
        }
    }

    private static void scaled(long up, long down, long otherUp, long otherDown, boolean exact) {
        PortRules x = pair(0);
        due("unit of the first", 1, x.unit(1, 0, up, down));
        due("unit of the second", 1, x.unit(2, 0, otherUp, otherDown));
        due(up + " / " + down + " to " + otherUp + " / " + otherDown, exact ? 0 : 3002, x.check());
    }

    private static void rule3() {
        says("3 the scaling is exact: .. divided without rest");
        scaled(1, 1, 1, 1, true);
        scaled(2, 1, 1, 1, true);
        scaled(1, 2, 1, 1, false);
        scaled(1, 1, 2, 1, false);
        scaled(1, 1, 1, 2, true);
        scaled(5, 1, 5, 1, true);
        scaled(6, 1, 5, 1, false);
        scaled(4, 1, 5, 1, false);
        scaled(9, 1, 5, 1, false);
        scaled(10, 1, 5, 1, true);
        scaled(11, 1, 5, 1, false);
    }

    private static void rule3Products() {
        says("3 .. (up of the first times down of the second) .. by (down of the first times up of the second)");
        scaled(2, 3, 2, 3, true);
        scaled(2, 3, 3, 2, false);
        scaled(3, 2, 2, 3, false);
        scaled(4, 3, 2, 3, true);
        scaled(2, 3, 4, 3, false);
        scaled(2, 3, 4, 6, true);
        scaled(3, 7, 1, 7, true);
        scaled(7, 3, 7, 1, false);
        scaled(7, 1, 7, 3, true);
        scaled(1000, 1, 1, 1000, true);
        scaled(1, 1000, 1000, 1, false);
        scaled(1000, 1000, 1000, 1000, true);
        scaled(1000, 1000, 1000, 999, false);
        scaled(1000, 999, 1000, 1000, false);
        scaled(999, 1000, 1000, 1000, false);
        scaled(1000, 1000, 999, 1000, false);
        scaled(1000, 1000, 1, 1, true);
        scaled(1, 1, 1000, 1000, true);
        scaled(1000, 500, 2, 1, true);
        scaled(1000, 501, 2, 1, false);
    }

    private static void rule3NotWithoutUnits() {
        says("3 is about ports with a SCALING");
        due("no unit, no scaling", 0, pair(0).check());
        PortRules x = pair(0);
        x.port(1, 0, true);
        x.port(2, 0, false);
        x.connect(3, 4);
        x.unit(3, 1, 1, 1);
        x.unit(4, 1, 2, 1);
        due("the connector with units is told", 3004, x.check());
    }

    private static void versions(int first, int second, boolean fit) {
        PortRules x = pair(0);
        due("version of the first", 1, x.version(1, first));
        due("version of the second", 1, x.version(2, second));
        due(first + " for " + second, fit ? 0 : 4002, x.check());
    }

    private static void rule4Hundreds() {
        says("4 .. with the same hundreds (v / 100)");
        versions(99, 0, true);
        versions(100, 0, false);
        versions(100, 99, false);
        versions(199, 100, true);
        versions(200, 199, false);
        versions(200, 100, false);
        versions(9999, 9900, true);
        versions(9999, 9899, false);
        versions(9999, 0, false);
        versions(1100, 100, false);
    }

    private static void rule4NotLess() {
        says("4 .. not less");
        versions(0, 0, true);
        versions(0, 1, false);
        versions(1, 0, true);
        versions(149, 150, false);
        versions(150, 150, true);
        versions(151, 150, true);
        versions(9998, 9999, false);
        versions(9999, 9999, true);
        versions(99, 100, false);
    }

    private static void rule4None() {
        says("4 A VERSION of the second asks for one of the first");
        due("none asks for none", 0, pair(0).check());
        PortRules x = pair(0);
        x.version(1, 0);
        due("the first alone has 0", 0, x.check());
        x.version(1, 9999);
        due("the first alone has 9999", 0, x.check());
        int[] asked = {0, 1, 99, 100, 9999};
        for (int v : asked) {
            PortRules y = pair(0);
            y.version(2, v);
            due("the second alone has " + v, 4002, y.check());
        }
    }

    // Rules 5 to 8

    private static void rule5() {
        says("5 A REQUIRED port .. to which no FLAT CONNECTOR leads has a FALLBACK");
        due("one leads to it", 0, pair(0).check());
        int[] values = {0, 1, -1, Integer.MIN_VALUE, Integer.MAX_VALUE};
        for (int v : values) {
            PortRules x = withParts(1);
            x.port(1, 0, false);
            due("no fallback", 5001, x.check());
            x.fallback(1, v);
            due("fallback " + v, 0, x.check());
        }
        PortRules y = outAcrossIn(0);
        y.connect(2, 3);
        y.connect(3, 4);
        due("connectors lead to it, but no flat one", 5004, y.check());
        y.connect(1, 2);
        due("a flat one leads to it", 0, y.check());
        y.part(2);
        due("none leads to it any longer", 5004, y.check());
    }

    private static void rule5Kinds() {
        says("5 .. of KIND 0, 1 or 3");
        for (int kind = 0; kind < 4; kind++) {
            PortRules x = withParts(1);
            x.port(1, kind, false);
            due("kind " + kind, kind == 2 ? 6001 : 5001, x.check());
        }
    }

    /** Part 2 with one required port of kind 2, number 1, and n servers leading to it. */
    private static PortRules served(int n) {
        PortRules x = withParts(2);
        x.port(2, 2, false);
        for (int i = 0; i < n; i++) {
            x.connect(x.port(1, 2, true), 1);
        }
        return x;
    }

    private static void rule6() {
        says("6 To a REQUIRED port of KIND 2 one leads, at least");
        PortRules x = served(0);
        due("none leads", 6001, x.check());
        x.fallback(1, 5);
        due("a fallback is no help", 6001, x.check());
        due("one leads", 0, served(1).check());
        PortRules y = withParts(2);
        y.port(1, 2, true);
        due("a provided port needs none", 0, y.check());
    }

    private static void rule7() {
        says("7 at most");
        due("one leads", 0, served(1).check());
        due("two lead", 7001, served(2).check());
        due("59 lead", 7001, served(59).check());
        for (int kind = 0; kind < 4; kind++) {
            PortRules x = pair(kind);
            x.port(1, kind, true);
            x.connect(3, 2);
            x.queue(2, 1);
            x.manager(0, 1);
            due("two lead to a port of kind " + kind, kind == 2 ? 7002 : 0, x.check());
        }
        PortRules y = pair(2);
        y.port(2, 2, false);
        y.connect(1, 3);
        due("one serves two", 0, y.check());
    }

    private static void rule8() {
        says("8 A REQUIRED port of KIND 1 has a QUEUE");
        PortRules x = pair(1);
        x.queue(1, 1);
        due("the provided port's does not count", 8002, x.check());
        x.queue(2, 1);
        due("a queue of 1", 0, x.check());
        PortRules y = withParts(1);
        y.port(1, 1, false);
        y.fallback(1, 0);
        due("an open port needs one too", 8001, y.check());
        y.queue(1, 100);
        due("a queue of 100", 0, y.check());
    }

    private static void rule8Kinds() {
        says("8 .. of KIND 1");
        for (int kind = 0; kind < 4; kind++) {
            PortRules x = pair(kind);
            x.manager(0, 1);
            due("kind " + kind, kind == 1 ? 8002 : 0, x.check());
        }
    }

    // Rule 9

    private static void rule9() {
        says("9 The part .. MANAGES a mode");
        due("none", 9002, pair(3).check());
        for (int mode = 0; mode <= 9; mode++) {
            PortRules x = pair(3);
            x.manager(mode, 2);
            due("mode " + mode + " of the other part", 9002, x.check());
            x.manager(mode, 1);
            due("mode " + mode + " is the other's still", 9002, x.check());
            x.manager((mode + 1) % 10, 1);
            due("a mode of its own", 0, x.check());
        }
    }

    private static void rule9PartOfTheFirst() {
        says("9 The part of the first port of a FLAT CONNECTOR");
        int[] others = {1, 3, 4};
        for (int part : others) {
            PortRules x = row(3);
            x.manager(0, part);
            due("part " + part + " manages", 9004, x.check());
        }
        PortRules x = row(3);
        x.manager(0, 2);
        due("part 2 manages", 0, x.check());
        PortRules y = withParts(30);
        y.port(30, 3, true);
        y.port(29, 3, false);
        y.connect(1, 2);
        y.manager(9, 29);
        due("part 29 manages", 9002, y.check());
        y.manager(0, 30);
        due("part 30 manages", 0, y.check());
    }

    private static void rule9Kinds() {
        says("9 .. of KIND 3");
        for (int kind = 0; kind < 4; kind++) {
            PortRules x = pair(kind);
            x.queue(2, 1);
            due("kind " + kind, kind == 3 ? 9002 : 0, x.check());
        }
    }

    private static void firstFourForAllKinds() {
        says("1 to 4 name no KIND");
        for (int kind = 0; kind < 4; kind++) {
            PortRules x = pair(kind);
            x.unit(2, 1, 2, 1);
            due("rule 1, kind " + kind, 1002, x.check());
            x.unit(1, 0, 1, 1);
            due("rule 2, kind " + kind, 2002, x.check());
            x.unit(1, 1, 1, 1);
            due("rule 3, kind " + kind, 3002, x.check());
            x.unit(1, 1, 2, 1);
            x.version(2, 0);
            due("rule 4, kind " + kind, 4002, x.check());
        }
    }
}
