/** Sends packets through a small network of routers. */
public final class LabelNet {
    public static final int NONE = -1;

    private static final int ROUTERS = 7;
    private static final int PAIRS = ROUTERS * ROUTERS;
    private static final int LEAST_COST = 1;
    private static final int GREATEST_COST = 9;
    private static final int NO_LINK = 0;
    // Above any distance (at most 6 links of cost 9), and twice it is still a small int.
    private static final int NO_WAY = 1000;

    // What belongs to a pair of routers is held once for each direction, at the pair's place().
    private final int[] linkCosts = new int[PAIRS];
    private final boolean[] linkUp = new boolean[PAIRS];
    private final boolean[] routerUp = new boolean[ROUTERS];

    // These two follow from the three above: whoever changes those calls findRoutes().
    private final int[] distances = new int[PAIRS];
    private final int[] nextHops = new int[PAIRS];

    private final int[] routesBefore = new int[PAIRS];

    public LabelNet() {
        for (int r = 0; r < ROUTERS; r++) {
            routerUp[r] = true;
        }
        findRoutes();
    }

    public boolean join(int a, int b, int cost) {
        if (a == b || !isRouter(a) || !isRouter(b)) {
            return false;
        }
        if (cost < LEAST_COST || cost > GREATEST_COST) {
            return false;
        }
        putLink(a, b, cost, true);
        findRoutes();
        return true;
    }

    public boolean cut(int a, int b) {
        if (!isLink(a, b)) {
            return false;
        }
        putLink(a, b, NO_LINK, false);
        findRoutes();
        return true;
    }

    public boolean setLink(int a, int b, boolean up) {
        if (!isLink(a, b)) {
            return false;
        }
        int cost = linkCosts[place(a, b)];
        putLink(a, b, cost, up);
        findRoutes();
        return true;
    }

    public boolean setRouter(int r, boolean up) {
        if (!isRouter(r)) {
            return false;
        }
        routerUp[r] = up;
        findRoutes();
        return true;
    }

    public int cost(int a, int b) {
        return isLink(a, b) ? linkCosts[place(a, b)] : NONE;
    }

    public int distance(int s, int d) {
        return isRoute(s, d) ? distances[place(s, d)] : NONE;
    }

    public int nextHop(int s, int d) {
        return isRoute(s, d) ? nextHops[place(s, d)] : NONE;
    }

    public int hops(int s, int d) {
        if (!isRoute(s, d)) {
            return NONE;
        }
        int links = 0;
        int here = s;
        while (here != d && links < ROUTERS) {
            here = nextHop(here, d);
            links++;
        }
        return links;
    }

    public int routeAt(int s, int d, int k) {
        if (k < 0 || k > hops(s, d)) {
            return NONE;
        }
        return after(s, d, k);
    }

    public int after(int s, int d, int n) {
        if (!isRoute(s, d)) {
            return NONE;
        }
        int here = s;
        for (int link = 0; link < ROUTERS && link < n && here != d; link++) {
            here = nextHop(here, d);
        }
        return here;
    }

    public int load(int r) {
        if (!isRouter(r)) {
            return 0;
        }
        int pairs = 0;
        for (int s = 0; s < ROUTERS; s++) {
            for (int d = 0; d < ROUTERS; d++) {
                if (s != r && d != r && comesThrough(s, d, r)) {
                    pairs++;
                }
            }
        }
        return pairs;
    }

    public int linkLoad(int a, int b) {
        if (!isLink(a, b) || !counts(a, b)) {
            return 0;
        }
        int pairs = 0;
        for (int s = 0; s < ROUTERS; s++) {
            for (int d = 0; d < ROUTERS; d++) {
                if (goesAlong(s, d, a, b)) {
                    pairs++;
                }
            }
        }
        return pairs;
    }

    public int reachable(int s) {
        int routers = 0;
        for (int d = 0; d < ROUTERS; d++) {
            if (d != s && isRoute(s, d)) {
                routers |= 1 << d;
            }
        }
        return routers;
    }

    public int farthest(int s) {
        int greatest = NONE;
        for (int d = 0; d < ROUTERS; d++) {
            int length = distance(s, d);
            // NONE is below every distance, so a router without one never wins.
            if (length > greatest) {
                greatest = length;
            }
        }
        return greatest;
    }

    public int impact(int a, int b) {
        if (!isLink(a, b)) {
            return 0;
        }
        int cost = linkCosts[place(a, b)];
        boolean up = linkUp[place(a, b)];
        rememberRoutes();
        putLink(a, b, cost, !up);
        findRoutes();
        int pairs = countChangedRoutes();
        putLink(a, b, cost, up);
        findRoutes();
        return pairs;
    }

    private static boolean isRouter(int r) {
        return r >= 0 && r < ROUTERS;
    }

    /** Only for two routers: the callers have looked at both. */
    private static int place(int a, int b) {
        return a * ROUTERS + b;
    }

    private boolean isLink(int a, int b) {
        return isRouter(a) && isRouter(b) && linkCosts[place(a, b)] != NO_LINK;
    }

    /** Only for two routers; where there is no link, linkUp is false. */
    private boolean counts(int a, int b) {
        return linkUp[place(a, b)] && routerUp[a] && routerUp[b];
    }

    /** Whether there is a distance; from a router that is up to itself there is one. */
    private boolean isRoute(int s, int d) {
        return isRouter(s) && isRouter(d) && distances[place(s, d)] != NO_WAY;
    }

    private void putLink(int a, int b, int cost, boolean up) {
        linkCosts[place(a, b)] = cost;
        linkCosts[place(b, a)] = cost;
        linkUp[place(a, b)] = up;
        linkUp[place(b, a)] = up;
    }

    private void findRoutes() {
        measureDirectWays();
        for (int middle = 0; middle < ROUTERS; middle++) {
            shortenWaysThrough(middle);
        }
        chooseNextHops();
    }

    private void measureDirectWays() {
        for (int s = 0; s < ROUTERS; s++) {
            for (int d = 0; d < ROUTERS; d++) {
                distances[place(s, d)] = directWay(s, d);
            }
        }
    }

    private int directWay(int s, int d) {
        if (s == d) {
            return routerUp[s] ? 0 : NO_WAY;
        }
        return counts(s, d) ? linkCosts[place(s, d)] : NO_WAY;
    }

    private void shortenWaysThrough(int middle) {
        for (int s = 0; s < ROUTERS; s++) {
            for (int d = 0; d < ROUTERS; d++) {
                int length = distances[place(s, middle)] + distances[place(middle, d)];
                if (length < distances[place(s, d)]) {
                    distances[place(s, d)] = length;
                }
            }
        }
    }

    private void chooseNextHops() {
        for (int s = 0; s < ROUTERS; s++) {
            for (int d = 0; d < ROUTERS; d++) {
                nextHops[place(s, d)] = leastNextHop(s, d);
            }
        }
    }

    private int leastNextHop(int s, int d) {
        if (s == d || !isRoute(s, d)) {
            return NONE;
        }
        for (int r = 0; r < ROUTERS; r++) {
            if (counts(s, r) && linkCosts[place(s, r)] + distances[place(r, d)] == distances[place(s, d)]) {
                return r;
            }
        }
        return NONE;
    }

    private boolean comesThrough(int s, int d, int r) {
        int here = s;
        for (int link = 0; link < ROUTERS && here != NONE; link++) {
            if (here == r) {
                return true;
            }
            // NONE without a route, and behind its end.
            here = nextHop(here, d);
        }
        return false;
    }

    private boolean goesAlong(int s, int d, int a, int b) {
        int here = s;
        for (int link = 0; link < ROUTERS && here != NONE; link++) {
            int next = nextHop(here, d);
            if ((here == a && next == b) || (here == b && next == a)) {
                return true;
            }
            here = next;
        }
        return false;
    }

    /** The whole route as one number (0 without a route), so that two routes can be compared. */
    private int packedRoute(int s, int d) {
        if (!isRoute(s, d)) {
            return 0;
        }
        int packed = 0;
        int here = s;
        for (int link = 0; link < ROUTERS && here != NONE; link++) {
            // Three bits for each of at most seven routers; counted from 1, so that router 0 leaves a mark too.
            packed = (packed << 3) | (here + 1);
            here = nextHop(here, d);
        }
        return packed;
    }

    private void rememberRoutes() {
        for (int s = 0; s < ROUTERS; s++) {
            for (int d = 0; d < ROUTERS; d++) {
                routesBefore[place(s, d)] = packedRoute(s, d);
            }
        }
    }

    private int countChangedRoutes() {
        int pairs = 0;
        for (int s = 0; s < ROUTERS; s++) {
            for (int d = 0; d < ROUTERS; d++) {
                if (packedRoute(s, d) != routesBefore[place(s, d)]) {
                    pairs++;
                }
            }
        }
        return pairs;
    }
}
