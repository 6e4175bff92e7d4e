import java.util.ArrayList;
import java.util.Arrays;
import java.util.List;

/**
 * Long runs of calls, the same ones each time, on an object and on a model of it. The model knows no table of
 * distances: it tries every way without a router twice, and takes the cheapest one, of several the one that comes
 * first when they are read as words. That one is the route, as each hop is the least that keeps to the distance.
 */
public final class ModelTest {
    private static final int ROUTERS = 7;
    private static final int RUNS = 400;
    private static final int CALLS = 512;

    private static int wrong = 0;
    private static long seed;

    private final int[][] cost = new int[ROUTERS][ROUTERS];
    private final boolean[][] up = new boolean[ROUTERS][ROUTERS];
    private final boolean[] routerUp = new boolean[ROUTERS];

    private ModelTest() {
        Arrays.fill(routerUp, true);
    }

    public static void main(String[] args) {
        for (int run = 0; run < RUNS && wrong < 20; run++) {
            seed = run * 7919L + 1;
            compareRun(run);
        }
        System.out.println(wrong == 0 ? "all answers are as due" : wrong + " answers are not as due");
        if (wrong != 0) {
            System.exit(1);
        }
    }

    /** A fixed sequence from the seed, so that a run that fails fails again. */
    private static int pick(int bound) {
        seed = seed * 6364136223846793005L + 1442695040888963407L;
        return (int) ((seed >>> 33) % bound);
    }

    /** Now and then a number that is no router. */
    private static int pickRouter() {
        return pick(40) == 0 ? pick(2) * 8 - 1 : pick(ROUTERS);
    }

    private static int pickCost(int run) {
        if (pick(40) == 0) {
            return pick(2) * 10;
        }
        // Costs that hardly differ make many ways of equal cost.
        return run % 2 == 0 ? 1 + pick(9) : 1 + pick(2);
    }

    private static void compareRun(int run) {
        LabelNet net = new LabelNet();
        ModelTest model = new ModelTest();
        for (int call = 0; call < CALLS && wrong < 20; call++) {
            if (pick(4) == 0) {
                compareChange(run, call, net, model);
            } else {
                compareAnswer(run, call, net, model);
            }
        }
    }

    private static void compareChange(int run, int call, LabelNet net, ModelTest model) {
        int a = pickRouter();
        int b = pickRouter();
        boolean up = pick(3) != 0;
        int kind = pick(10);
        if (kind < 5) {
            int c = pickCost(run);
            due(run, call, "join(" + a + ", " + b + ", " + c + ")", net.join(a, b, c), model.join(a, b, c));
        } else if (kind < 6) {
            due(run, call, "cut(" + a + ", " + b + ")", net.cut(a, b), model.cut(a, b));
        } else if (kind < 8) {
            due(run, call, "setLink(" + a + ", " + b + ", " + up + ")", net.setLink(a, b, up), model.setLink(a, b, up));
        } else {
            due(run, call, "setRouter(" + a + ", " + up + ")", net.setRouter(a, up), model.setRouter(a, up));
        }
    }

    private static void compareAnswer(int run, int call, LabelNet net, ModelTest model) {
        int s = pickRouter();
        int d = pickRouter();
        int k = pick(10) - 2;
        String pair = "(" + s + ", " + d + ")";
        String triple = "(" + s + ", " + d + ", " + k + ")";
        switch (pick(11)) {
            case 0 -> due(run, call, "cost" + pair, net.cost(s, d), model.cost(s, d));
            case 1 -> due(run, call, "distance" + pair, net.distance(s, d), model.distance(s, d));
            case 2 -> due(run, call, "nextHop" + pair, net.nextHop(s, d), model.nextHop(s, d));
            case 3 -> due(run, call, "hops" + pair, net.hops(s, d), model.route(s, d).size() - 1);
            case 4 -> due(run, call, "routeAt" + triple, net.routeAt(s, d, k), model.routeAt(s, d, k));
            case 5 -> due(run, call, "after" + triple, net.after(s, d, k), model.after(s, d, k));
            case 6 -> due(run, call, "load(" + s + ")", net.load(s), model.load(s));
            case 7 -> due(run, call, "linkLoad" + pair, net.linkLoad(s, d), model.linkLoad(s, d));
            case 8 -> due(run, call, "reachable(" + s + ")", net.reachable(s), model.reachable(s));
            case 9 -> due(run, call, "farthest(" + s + ")", net.farthest(s), model.farthest(s));
            default -> due(run, call, "impact" + pair, net.impact(s, d), model.impact(s, d));
        }
    }

    private static void due(int run, int number, String call, Object got, Object want) {
        if (!got.equals(want)) {
            wrong++;
            System.out.println("run " + run + ", call " + number + ": " + call + " answered " + got + ", due is " + want);
        }
    }

    private static boolean isRouter(int r) {
        return 0 <= r && r <= 6;
    }

    private boolean isLink(int a, int b) {
        return isRouter(a) && isRouter(b) && cost[a][b] != 0;
    }

    private boolean counts(int a, int b) {
        return isLink(a, b) && up[a][b] && routerUp[a] && routerUp[b];
    }

    private boolean join(int a, int b, int c) {
        if (a == b || !isRouter(a) || !isRouter(b) || c < 1 || c > 9) {
            return false;
        }
        cost[a][b] = cost[b][a] = c;
        up[a][b] = up[b][a] = true;
        return true;
    }

    private boolean cut(int a, int b) {
        if (!isLink(a, b)) {
            return false;
        }
        cost[a][b] = cost[b][a] = 0;
        return true;
    }

    private boolean setLink(int a, int b, boolean put) {
        if (!isLink(a, b)) {
            return false;
        }
        up[a][b] = up[b][a] = put;
        return true;
    }

    private boolean setRouter(int r, boolean put) {
        if (!isRouter(r)) {
            return false;
        }
        routerUp[r] = put;
        return true;
    }

    private int cost(int a, int b) {
        return isLink(a, b) ? cost[a][b] : -1;
    }

    /** Empty when there is no distance. */
    private List<Integer> route(int s, int d) {
        List<Integer> best = new ArrayList<>();
        if (isRouter(s) && isRouter(d) && routerUp[s] && routerUp[d]) {
            tryWays(new ArrayList<>(List.of(s)), d, best);
        }
        return best;
    }

    /** Tries the lesser numbers first: a later way must be cheaper to win. */
    private void tryWays(List<Integer> way, int d, List<Integer> best) {
        int here = way.get(way.size() - 1);
        if (here == d) {
            if (best.isEmpty() || costOf(way) < costOf(best)) {
                best.clear();
                best.addAll(way);
            }
            return;
        }
        for (int r = 0; r < ROUTERS; r++) {
            if (counts(here, r) && !way.contains(r)) {
                way.add(r);
                tryWays(way, d, best);
                way.remove(way.size() - 1);
            }
        }
    }

    private int costOf(List<Integer> way) {
        int sum = 0;
        for (int i = 1; i < way.size(); i++) {
            sum += cost[way.get(i - 1)][way.get(i)];
        }
        return sum;
    }

    private int distance(int s, int d) {
        List<Integer> route = route(s, d);
        return route.isEmpty() ? -1 : costOf(route);
    }

    private int nextHop(int s, int d) {
        List<Integer> route = route(s, d);
        return route.size() < 2 ? -1 : route.get(1);
    }

    private int routeAt(int s, int d, int k) {
        List<Integer> route = route(s, d);
        return k < 0 || k >= route.size() ? -1 : route.get(k);
    }

    private int after(int s, int d, int n) {
        List<Integer> route = route(s, d);
        return route.isEmpty() ? -1 : route.get(Math.min(Math.max(n, 0), route.size() - 1));
    }

    private List<List<Integer>> routesOfAllPairs() {
        List<List<Integer>> routes = new ArrayList<>();
        for (int s = 0; s < ROUTERS; s++) {
            for (int d = 0; d < ROUTERS; d++) {
                if (s != d) {
                    routes.add(route(s, d));
                }
            }
        }
        return routes;
    }

    private int load(int r) {
        int pairs = 0;
        for (List<Integer> route : routesOfAllPairs()) {
            int at = route.indexOf(r);
            if (at > 0 && at < route.size() - 1) {
                pairs++;
            }
        }
        return pairs;
    }

    private int linkLoad(int a, int b) {
        int pairs = 0;
        for (List<Integer> route : routesOfAllPairs()) {
            int atA = route.indexOf(a);
            int atB = route.indexOf(b);
            if (atA >= 0 && atB >= 0 && Math.abs(atA - atB) == 1) {
                pairs++;
            }
        }
        return pairs;
    }

    private int reachable(int s) {
        int routers = 0;
        for (int d = 0; d < ROUTERS; d++) {
            if (d != s && distance(s, d) >= 0) {
                routers += 1 << d;
            }
        }
        return routers;
    }

    private int farthest(int s) {
        int greatest = -1;
        for (int d = 0; d < ROUTERS; d++) {
            greatest = Math.max(greatest, distance(s, d));
        }
        return greatest;
    }

    private int impact(int a, int b) {
        if (!isLink(a, b)) {
            return 0;
        }
        List<List<Integer>> before = routesOfAllPairs();
        setLink(a, b, !up[a][b]);
        List<List<Integer>> turned = routesOfAllPairs();
        setLink(a, b, !up[a][b]);
        int pairs = 0;
        for (int i = 0; i < before.size(); i++) {
            if (!before.get(i).equals(turned.get(i))) {
                pairs++;
            }
        }
        return pairs;
    }
}
