import java.util.Arrays;

/**
 * Parts with ports, the connectors among these, what really reaches what
 * through all compositions, and the first rule that is broken.
 */
public final class PortRules {
    private static final int MOST_PARTS = 30;
    private static final int MOST_PORTS = 60;
    private static final int MODES = 10;
    private static final int LAST_UNIT = 20;
    private static final long MOST_SCALING = 1000;
    private static final int LAST_VERSION = 9999;
    private static final int LONGEST_QUEUE = 100;

    private static final int KIND_QUEUED = 1;
    private static final int KIND_SERVICE = 2;
    private static final int KIND_MODE = 3;

    private static final int UNKNOWN = -1;
    private static final int OUTSIDE = -2;
    private static final int WRONG_STATE = -3;
    private static final int NO_ROOM = -4;

    private static final int ON_TOP = 0;
    private static final int NOBODY = 0;
    private static final int NO_QUEUE = 0;
    private static final int NO_PORT = 0;
    // Unit 0 and version 0 are real ones, so "none" lies below both ranges.
    private static final int NONE = -1;
    private static final int RULES = 9;

    private int partCount;
    private final int[] compositionOf;
    private final boolean[] hasInnerParts;
    private final int[] managerOf;

    private int portCount;
    private final int[] partOf;
    private final int[] kindOf;
    private final boolean[] isProvided;
    private final int[] unitOf;
    private final long[] upOf;
    private final long[] downOf;
    private final int[] versionOf;
    private final boolean[] hasFallback;
    private final int[] fallbackOf;
    private final int[] queueOf;

    // A set of ports is one long (60 ports fit): bit n stands for port n.
    private final long[] connectedTo;
    private final long[] reachedFrom;
    private long atomicProvided;
    private long atomicRequired;

    public PortRules() {
        compositionOf = new int[MOST_PARTS + 1];
        hasInnerParts = new boolean[MOST_PARTS + 1];
        managerOf = new int[MODES];
        partOf = new int[MOST_PORTS + 1];
        kindOf = new int[MOST_PORTS + 1];
        isProvided = new boolean[MOST_PORTS + 1];
        unitOf = new int[MOST_PORTS + 1];
        upOf = new long[MOST_PORTS + 1];
        downOf = new long[MOST_PORTS + 1];
        versionOf = new int[MOST_PORTS + 1];
        hasFallback = new boolean[MOST_PORTS + 1];
        fallbackOf = new int[MOST_PORTS + 1];
        queueOf = new int[MOST_PORTS + 1];
        connectedTo = new long[MOST_PORTS + 1];
        reachedFrom = new long[MOST_PORTS + 1];
        Arrays.fill(unitOf, NONE);
        Arrays.fill(versionOf, NONE);
    }

    public int part(int composition) {
        if (composition != ON_TOP && !isPart(composition)) {
            return UNKNOWN;
        }
        if (partCount >= MOST_PARTS) {
            return NO_ROOM;
        }
        partCount++;
        compositionOf[partCount] = composition;
        if (composition != ON_TOP) {
            endAtomic(composition);
        }
        return partCount;
    }

    public int port(int part, int kind, boolean provided) {
        if (!isPart(part)) {
            return UNKNOWN;
        }
        if (kind < 0 || kind > KIND_MODE) {
            return OUTSIDE;
        }
        if (portCount >= MOST_PORTS) {
            return NO_ROOM;
        }
        portCount++;
        partOf[portCount] = part;
        kindOf[portCount] = kind;
        isProvided[portCount] = provided;
        if (!hasInnerParts[part]) {
            addAtomicPort(portCount);
        }
        return portCount;
    }

    public int unit(int port, int u, long up, long down) {
        if (!isPort(port)) {
            return UNKNOWN;
        }
        if (u < 0 || u > LAST_UNIT || !isScaling(up) || !isScaling(down)) {
            return OUTSIDE;
        }
        unitOf[port] = u;
        upOf[port] = up;
        downOf[port] = down;
        return 1;
    }

    public int connect(int port, int other) {
        if (!isPort(port) || !isPort(other)) {
            return UNKNOWN;
        }
        if (kindOf[port] != kindOf[other] || !isWay(port, other)) {
            return OUTSIDE;
        }
        if (holds(connectedTo[port], other)) {
            return 0;
        }
        connectedTo[port] |= bit(other);
        spreadReach(port, other);
        return 1;
    }

    public int flatten() {
        int count = 0;
        for (int first = 1; first <= portCount; first++) {
            count += Long.bitCount(flatFrom(first));
        }
        return count;
    }

    public int at(int i, int what) throws IndexOutOfBoundsException {
        int left = i;
        for (int first = 1; first <= portCount && left >= 0; first++) {
            long seconds = flatFrom(first);
            int size = Long.bitCount(seconds);
            if (left < size) {
                return what == 0 ? first : nthPort(seconds, left);
            }
            left -= size;
        }
        throw new IndexOutOfBoundsException("no such flat connector");
    }

    public int check() {
        for (int rule = 1; rule <= RULES; rule++) {
            int breaker = isPortRule(rule) ? firstBadPort(rule) : firstBadConnector(rule);
            if (breaker != NO_PORT) {
                return 1000 * rule + breaker;
            }
        }
        return 0;
    }

    public int manager(int mode, int part) {
        if (!isPart(part)) {
            return UNKNOWN;
        }
        if (mode < 0 || mode >= MODES) {
            return OUTSIDE;
        }
        if (managerOf[mode] != NOBODY && managerOf[mode] != part) {
            return 0;
        }
        managerOf[mode] = part;
        return 1;
    }

    public int fallback(int port, int v) {
        if (!isPort(port)) {
            return UNKNOWN;
        }
        if (isProvided[port]) {
            return WRONG_STATE;
        }
        int before = fallbackOf[port];
        hasFallback[port] = true;
        fallbackOf[port] = v;
        return before;
    }

    public int queue(int port, int n) {
        if (!isPort(port)) {
            return UNKNOWN;
        }
        if (n < 1 || n > LONGEST_QUEUE) {
            return OUTSIDE;
        }
        if (kindOf[port] != KIND_QUEUED) {
            return WRONG_STATE;
        }
        queueOf[port] = n;
        return 1;
    }

    public int version(int port, int v) {
        if (!isPort(port)) {
            return UNKNOWN;
        }
        if (v < 0 || v > LAST_VERSION) {
            return OUTSIDE;
        }
        versionOf[port] = v;
        return 1;
    }

    public int open(int i) {
        return i < 0 ? NO_PORT : nthPort(atomicRequired & ~flatSeconds(), i);
    }

    private boolean isPart(int number) {
        return number >= 1 && number <= partCount;
    }

    private boolean isPort(int number) {
        return number >= 1 && number <= portCount;
    }

    private static boolean isScaling(long factor) {
        return factor >= 1 && factor <= MOST_SCALING;
    }

    private static long bit(int port) {
        return 1L << port;
    }

    private static boolean holds(long ports, int port) {
        return (ports & bit(port)) != 0;
    }

    /** The n-th port (from 0) of a set, or NO_PORT if it has fewer. */
    private int nthPort(long ports, int n) {
        int left = n;
        for (int port = 1; port <= portCount; port++) {
            if (holds(ports, port)) {
                if (left == 0) {
                    return port;
                }
                left--;
            }
        }
        return NO_PORT;
    }

    private void addAtomicPort(int port) {
        if (isProvided[port]) {
            atomicProvided |= bit(port);
        } else {
            atomicRequired |= bit(port);
        }
    }

    private void endAtomic(int part) {
        hasInnerParts[part] = true;
        for (int port = 1; port <= portCount; port++) {
            if (partOf[port] == part) {
                atomicProvided &= ~bit(port);
                atomicRequired &= ~bit(port);
            }
        }
    }

    private boolean isWay(int port, int other) {
        int part = partOf[port];
        int otherPart = partOf[other];
        if (!isProvided[port]) {
            return !isProvided[other] && compositionOf[otherPart] == part;
        }
        if (isProvided[other]) {
            return compositionOf[part] == otherPart;
        }
        return part != otherPart && compositionOf[part] == compositionOf[otherPart];
    }

    // The reach is kept whole at each new connector, so that no question has to search.
    private void spreadReach(int port, int other) {
        long gained = reachedFrom[other] | bit(other);
        for (int from = 1; from <= portCount; from++) {
            if (from == port || holds(reachedFrom[from], port)) {
                reachedFrom[from] |= gained;
            }
        }
    }

    /** The second ports of all flat connectors with this first one. */
    private long flatFrom(int first) {
        return holds(atomicProvided, first) ? reachedFrom[first] & atomicRequired : 0;
    }

    /** The second ports of all flat connectors. */
    private long flatSeconds() {
        long seconds = 0;
        for (int first = 1; first <= portCount; first++) {
            seconds |= flatFrom(first);
        }
        return seconds;
    }

    private int flatCountTo(int second) {
        int count = 0;
        for (int first = 1; first <= portCount; first++) {
            if (holds(flatFrom(first), second)) {
                count++;
            }
        }
        return count;
    }

    private static boolean isPortRule(int rule) {
        return rule >= 5 && rule <= 8;
    }

    private int firstBadPort(int rule) {
        for (int port = 1; port <= portCount; port++) {
            if (holds(atomicRequired, port) && portBreaks(rule, port)) {
                return port;
            }
        }
        return NO_PORT;
    }

    private boolean portBreaks(int rule, int port) {
        boolean isService = kindOf[port] == KIND_SERVICE;
        switch (rule) {
            case 5:
                return !isService && !hasFallback[port] && flatCountTo(port) == 0;
            case 6:
                return isService && flatCountTo(port) == 0;
            case 7:
                return isService && flatCountTo(port) > 1;
            default:
                return kindOf[port] == KIND_QUEUED && queueOf[port] == NO_QUEUE;
        }
    }

    private int firstBadConnector(int rule) {
        for (int first = 1; first <= portCount; first++) {
            long seconds = flatFrom(first);
            for (int second = 1; second <= portCount; second++) {
                if (holds(seconds, second) && connectorBreaks(rule, first, second)) {
                    return second;
                }
            }
        }
        return NO_PORT;
    }

    private boolean connectorBreaks(int rule, int first, int second) {
        switch (rule) {
            case 1:
                return (unitOf[first] == NONE) != (unitOf[second] == NONE);
            case 2:
                return unitOf[first] != unitOf[second];
            case 3:
                return unitOf[first] != NONE && !isExactScaling(first, second);
            case 4:
                return versionOf[second] != NONE && !servesVersion(first, second);
            default:
                return kindOf[first] == KIND_MODE && !managesMode(partOf[first]);
        }
    }

    private boolean isExactScaling(int first, int second) {
        long divisor = downOf[first] * upOf[second];
        return divisor != 0 && upOf[first] * downOf[second] % divisor == 0;
    }

    private boolean servesVersion(int first, int second) {
        int offered = versionOf[first];
        int asked = versionOf[second];
        // No version (-1) would share the hundreds of 0 .. 99, but it is less than each of them.
        return offered >= asked && offered / 100 == asked / 100;
    }

    private boolean managesMode(int part) {
        for (int mode = 0; mode < MODES; mode++) {
            if (managerOf[mode] == part) {
                return true;
            }
        }
        return false;
    }
}
