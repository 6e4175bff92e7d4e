/** Each promise of the document by hand-made cases: ordinary inputs, the edges it names, and wrong inputs. */
public final class PromisesTest {
    private static final int ROUTERS = 7;
    private static final int[] NOT_ROUTERS = {-1, 7, 8, -7, 49, Integer.MIN_VALUE, Integer.MAX_VALUE};

    private static int wrong = 0;

    public static void main(String[] args) {
        newObject();
        join();
        joinRefused();
        cut();
        setLink();
        setRouter();
        cost();
        distance();
        nextHop();
        hops();
        routeAt();
        after();
        load();
        linkLoad();
        reachable();
        farthest();
        impact();
        impactChangesNothing();
        impactOfRoutesOfEqualCost();
        noLinkOutsideTheRouters();
        System.out.println(wrong == 0 ? "all answers are as due" : wrong + " answers are not as due");
        if (wrong != 0) {
            System.exit(1);
        }
    }

    private static void due(String call, int got, int want) {
        if (got != want) {
            wrong++;
            System.out.println(call + " answered " + got + ", due is " + want);
        }
    }

    private static void due(String call, boolean got, boolean want) {
        if (got != want) {
            wrong++;
            System.out.println(call + " answered " + got + ", due is " + want);
        }
    }

    /** 0 - 1 - 2 - 3 - 4 - 5 - 6 with the costs 1 .. 6. */
    private static LabelNet chain() {
        LabelNet net = new LabelNet();
        for (int r = 0; r < ROUTERS - 1; r++) {
            net.join(r, r + 1, r + 1);
        }
        return net;
    }

    /** Two ways of cost 4 from 0 to 3: by 5, and by 2 and 1; and 3 - 4. */
    private static LabelNet twoWays() {
        LabelNet net = new LabelNet();
        net.join(0, 5, 2);
        net.join(5, 3, 2);
        net.join(0, 2, 1);
        net.join(2, 1, 1);
        net.join(1, 3, 2);
        net.join(3, 4, 9);
        return net;
    }

    private static void newObject() {
        due("1: NONE", LabelNet.NONE, -1);
        LabelNet net = new LabelNet();
        for (int a = 0; a < ROUTERS; a++) {
            for (int b = 0; b < ROUTERS; b++) {
                due("1: cost(" + a + ", " + b + ")", net.cost(a, b), -1);
                due("1: distance(" + a + ", " + b + ")", net.distance(a, b), a == b ? 0 : -1);
            }
        }
        net.join(0, 1, 1);
        due("1: another object has no link", new LabelNet().cost(0, 1), -1);
    }

    private static void join() {
        for (int a = 0; a < ROUTERS; a++) {
            for (int b = 0; b < ROUTERS; b++) {
                LabelNet net = new LabelNet();
                due("2: join(" + a + ", " + b + ", 1)", net.join(a, b, 1), a != b);
                due("2: join(" + a + ", " + b + ", 9)", net.join(a, b, 9), a != b);
                due("2: cost(" + b + ", " + a + ")", net.cost(b, a), a == b ? -1 : 9);
                due("2: distance(" + b + ", " + a + ")", net.distance(b, a), a == b ? 0 : 9);
            }
        }
        LabelNet net = new LabelNet();
        net.join(2, 4, 3);
        net.setLink(2, 4, false);
        due("2: join in place of a link that is down", net.join(4, 2, 3), true);
        due("2: the new link is up", net.distance(2, 4), 3);
        net.setRouter(4, false);
        due("2: join to a router that is down", net.join(4, 5, 2), true);
        due("2: its link does not count", net.distance(5, 4), -1);
        net.setRouter(4, true);
        due("2: its link counts later", net.distance(5, 2), 5);
    }

    private static void joinRefused() {
        LabelNet net = new LabelNet();
        net.join(0, 1, 5);
        net.setLink(0, 1, false);
        int[] costs = {0, 10, -1, -9, Integer.MIN_VALUE, Integer.MAX_VALUE};
        for (int cost : costs) {
            due("2: join(0, 1, " + cost + ")", net.join(0, 1, cost), false);
        }
        for (int r : NOT_ROUTERS) {
            due("2: join(0, " + r + ", 1)", net.join(0, r, 1), false);
            due("2: join(" + r + ", 1, 1)", net.join(r, 1, 1), false);
            due("2: join(" + r + ", " + r + ", 1)", net.join(r, r, 1), false);
        }
        due("2: join(1, 1, 1)", net.join(1, 1, 1), false);
        due("2: the cost has stayed", net.cost(0, 1), 5);
        due("2: the link has stayed down", net.distance(0, 1), -1);
        for (int a = 0; a < ROUTERS; a++) {
            for (int b = 0; b < ROUTERS; b++) {
                due("2: cost(" + a + ", " + b + ") after refusals", net.cost(a, b), a + b == 1 ? 5 : -1);
            }
        }
    }

    private static void cut() {
        LabelNet net = chain();
        due("3: cut(3, 2)", net.cut(3, 2), true);
        due("3: cost(2, 3)", net.cost(2, 3), -1);
        due("3: cost(3, 2)", net.cost(3, 2), -1);
        due("3: distance(0, 6)", net.distance(0, 6), -1);
        due("3: distance(3, 6)", net.distance(3, 6), 15);
        due("3: cut(2, 3) again", net.cut(2, 3), false);
        due("3: setLink after the cut", net.setLink(2, 3, true), false);
        due("3: still no link", net.distance(2, 3), -1);
        due("3: cut(0, 2)", net.cut(0, 2), false);
        due("3: cut(4, 4)", net.cut(4, 4), false);
        due("3: the other links have stayed", net.distance(0, 2), 3);
        net.setLink(0, 1, false);
        due("3: cut of a link that is down", net.cut(0, 1), true);
        due("3: cost(0, 1)", net.cost(0, 1), -1);
        net.setRouter(6, false);
        due("3: cut at a router that is down", net.cut(5, 6), true);
        net.setRouter(6, true);
        due("3: distance(5, 6)", net.distance(5, 6), -1);
    }

    private static void setLink() {
        LabelNet net = chain();
        due("4: setLink(1, 0, false)", net.setLink(1, 0, false), true);
        due("4: distance(0, 1)", net.distance(0, 1), -1);
        due("4: distance(1, 0)", net.distance(1, 0), -1);
        due("4: setLink(1, 0, false) again", net.setLink(1, 0, false), true);
        due("4: still down", net.distance(0, 1), -1);
        due("4: setLink(0, 1, true)", net.setLink(0, 1, true), true);
        due("4: distance(0, 1) up", net.distance(0, 1), 1);
        due("4: setLink(0, 1, true) again", net.setLink(0, 1, true), true);
        due("4: distance(1, 0) up", net.distance(1, 0), 1);
        due("4: setLink(0, 2, true)", net.setLink(0, 2, true), false);
        due("4: setLink(0, 2, false)", net.setLink(0, 2, false), false);
        due("4: setLink(3, 3, true)", net.setLink(3, 3, true), false);
        due("4: cost(0, 2)", net.cost(0, 2), -1);
        due("4: distance(0, 2)", net.distance(0, 2), 3);
        net.setRouter(3, false);
        due("4: setLink at a router that is down", net.setLink(3, 4, false), true);
        due("4: the router has stayed down", net.distance(3, 3), -1);
        net.setRouter(3, true);
        due("4: the link is down for itself", net.distance(3, 4), -1);
        due("4: the other link is up", net.distance(2, 3), 3);
    }

    private static void setRouter() {
        LabelNet net = chain();
        due("5: setRouter(3, false)", net.setRouter(3, false), true);
        due("5: distance(3, 3)", net.distance(3, 3), -1);
        due("5: distance(2, 4)", net.distance(2, 4), -1);
        due("5: distance(0, 2)", net.distance(0, 2), 3);
        due("5: setRouter(3, false) again", net.setRouter(3, false), true);
        due("5: cost(2, 3)", net.cost(2, 3), 3);
        due("5: setRouter(3, true)", net.setRouter(3, true), true);
        due("5: distance(2, 4) up", net.distance(2, 4), 7);
        due("5: setRouter(3, true) again", net.setRouter(3, true), true);
        net.setLink(2, 3, false);
        net.setRouter(3, false);
        net.setRouter(3, true);
        due("5: a link that is down stays down", net.distance(2, 3), -1);
        due("5: setRouter(0, false)", net.setRouter(0, false), true);
        due("5: setRouter(6, false)", net.setRouter(6, false), true);
        for (int r : NOT_ROUTERS) {
            due("5: setRouter(" + r + ", false)", net.setRouter(r, false), false);
            due("5: setRouter(" + r + ", true)", net.setRouter(r, true), false);
        }
        for (int r = 0; r < ROUTERS; r++) {
            due("5: distance(" + r + ", " + r + ")", net.distance(r, r), r == 0 || r == 6 ? -1 : 0);
        }
    }

    private static void cost() {
        LabelNet net = chain();
        for (int r = 0; r < ROUTERS - 1; r++) {
            due("6: cost of link " + r, net.cost(r, r + 1), r + 1);
            due("6: cost of link " + r + " turned", net.cost(r + 1, r), r + 1);
            due("6: cost(" + r + ", " + r + ")", net.cost(r, r), -1);
        }
        due("6: cost(0, 2), a way but no link", net.cost(0, 2), -1);
        net.setLink(0, 1, false);
        due("6: cost of a link that is down", net.cost(1, 0), 1);
        net.setRouter(5, false);
        due("6: cost at a router that is down", net.cost(4, 5), 5);
        net.join(2, 1, 9);
        due("6: cost after another join", net.cost(1, 2), 9);
        net.join(0, 6, 9);
        net.join(3, 6, 9);
        due("6: the link's cost, not the distance", net.cost(0, 6), 9);
    }

    private static void distance() {
        LabelNet net = chain();
        due("7: distance(0, 6)", net.distance(0, 6), 21);
        due("7: distance(6, 0)", net.distance(6, 0), 21);
        due("7: distance(2, 2)", net.distance(2, 2), 0);
        net.join(0, 6, 9);
        due("7: distance(0, 6) by one link", net.distance(0, 6), 9);
        due("7: distance(0, 5) round", net.distance(0, 5), 15);
        due("7: distance(1, 6) round", net.distance(1, 6), 10);
        net.join(0, 2, 9);
        due("7: two cheap links beat a dear one", net.distance(0, 2), 3);
        for (int middle = 0; middle < ROUTERS; middle++) {
            LabelNet star = new LabelNet();
            int s = (middle + 1) % ROUTERS;
            int d = (middle + 2) % ROUTERS;
            star.join(s, middle, 3);
            star.join(middle, d, 4);
            due("7: a way through " + middle, star.distance(s, d), 7);
        }
        LabelNet dear = new LabelNet();
        for (int r = 0; r < ROUTERS - 1; r++) {
            dear.join(r, r + 1, 9);
        }
        due("7: the greatest distance", dear.distance(0, 6), 54);
        for (int r : NOT_ROUTERS) {
            due("7: distance(" + r + ", 0)", net.distance(r, 0), -1);
            due("7: distance(0, " + r + ")", net.distance(0, r), -1);
            due("7: distance(" + r + ", " + r + ")", net.distance(r, r), -1);
        }
        net.setRouter(0, false);
        due("7: from a router that is down", net.distance(0, 1), -1);
        due("7: to a router that is down", net.distance(1, 0), -1);
        due("7: from it to itself", net.distance(0, 0), -1);
        due("7: round a router that is down", net.distance(1, 6), 20);
    }

    private static void nextHop() {
        LabelNet net = twoWays();
        due("8: the least number of two", net.nextHop(0, 3), 2);
        due("8: the least number of two back", net.nextHop(3, 0), 1);
        due("8: the least number of three links", net.nextHop(0, 4), 2);
        due("8: nextHop(2, 3)", net.nextHop(2, 3), 1);
        due("8: to a neighbour", net.nextHop(0, 5), 5);
        due("8: nextHop(0, 0)", net.nextHop(0, 0), -1);
        due("8: nowhere", net.nextHop(0, 6), -1);
        net.join(0, 1, 9);
        due("8: a lesser number that is too dear", net.nextHop(0, 3), 2);
        net.setLink(0, 2, false);
        due("8: the link is down", net.nextHop(0, 3), 5);
        net.setLink(0, 2, true);
        net.setRouter(2, false);
        due("8: the router is down", net.nextHop(0, 3), 5);
        due("8: to a router that is down", net.nextHop(0, 2), -1);
        due("8: from a router that is down", net.nextHop(2, 1), -1);
        for (int r : NOT_ROUTERS) {
            due("8: nextHop(" + r + ", 0)", net.nextHop(r, 0), -1);
            due("8: nextHop(0, " + r + ")", net.nextHop(0, r), -1);
        }
    }

    private static void hops() {
        LabelNet net = chain();
        due("9: hops(0, 6)", net.hops(0, 6), 6);
        due("9: hops(6, 0)", net.hops(6, 0), 6);
        due("9: hops(2, 3)", net.hops(2, 3), 1);
        due("9: hops(4, 4)", net.hops(4, 4), 0);
        due("9: the route's links, not the fewest", twoWays().hops(0, 3), 3);
        net.setRouter(4, false);
        due("9: hops(4, 4) down", net.hops(4, 4), -1);
        due("9: hops(3, 5) with no way", net.hops(3, 5), -1);
        due("9: hops(3, 4) to a router that is down", net.hops(3, 4), -1);
        for (int r : NOT_ROUTERS) {
            due("9: hops(" + r + ", 0)", net.hops(r, 0), -1);
            due("9: hops(0, " + r + ")", net.hops(0, r), -1);
            due("9: hops(" + r + ", " + r + ")", net.hops(r, r), -1);
        }
    }

    private static void routeAt() {
        LabelNet net = twoWays();
        int[] there = {0, 2, 1, 3, 4};
        int[] back = {4, 3, 1, 2, 0};
        for (int k = 0; k < there.length; k++) {
            due("10: routeAt(0, 4, " + k + ")", net.routeAt(0, 4, k), there[k]);
            due("10: routeAt(4, 0, " + k + ")", net.routeAt(4, 0, k), back[k]);
        }
        int[] outside = {-1, 5, 6, 7, Integer.MIN_VALUE, Integer.MAX_VALUE};
        for (int k : outside) {
            due("10: routeAt(0, 4, " + k + ")", net.routeAt(0, 4, k), -1);
        }
        due("10: routeAt(6, 6, 0)", net.routeAt(6, 6, 0), 6);
        due("10: routeAt(6, 6, 1)", net.routeAt(6, 6, 1), -1);
        due("10: routeAt(6, 6, -1)", net.routeAt(6, 6, -1), -1);
        due("10: no way", net.routeAt(0, 6, 0), -1);
        due("10: no way, k = -1", net.routeAt(0, 6, -1), -1);
        net.setRouter(6, false);
        due("10: a router that is down", net.routeAt(6, 6, 0), -1);
        for (int r : NOT_ROUTERS) {
            due("10: routeAt(" + r + ", 0, 0)", net.routeAt(r, 0, 0), -1);
            due("10: routeAt(0, " + r + ", 0)", net.routeAt(0, r, 0), -1);
        }
    }

    private static void after() {
        LabelNet net = twoWays();
        int[] there = {0, 2, 1, 3, 4, 4, 4, 4, 4};
        for (int n = 0; n < there.length; n++) {
            due("11: after(0, 4, " + n + ")", net.after(0, 4, n), there[n]);
        }
        due("11: after(0, 4, -1)", net.after(0, 4, -1), 0);
        due("11: after(0, 4, least)", net.after(0, 4, Integer.MIN_VALUE), 0);
        due("11: after(0, 4, greatest)", net.after(0, 4, Integer.MAX_VALUE), 4);
        due("11: after(6, 6, 3)", net.after(6, 6, 3), 6);
        due("11: after(6, 6, -3)", net.after(6, 6, -3), 6);
        due("11: the longest route", chain().after(6, 0, 6), 0);
        due("11: the longest route but one link", chain().after(6, 0, 5), 1);
        due("11: no way", net.after(0, 6, 0), -1);
        net.setRouter(0, false);
        due("11: from a router that is down", net.after(0, 0, 0), -1);
        due("11: to a router that is down", net.after(1, 0, 0), -1);
        for (int r : NOT_ROUTERS) {
            due("11: after(" + r + ", 1, 0)", net.after(r, 1, 0), -1);
            due("11: after(1, " + r + ", 0)", net.after(1, r, 0), -1);
        }
    }

    private static void load() {
        LabelNet net = chain();
        for (int r = 0; r < ROUTERS; r++) {
            due("12: load(" + r + ")", net.load(r), 2 * r * (6 - r));
        }
        LabelNet two = twoWays();
        due("12: load(1)", two.load(1), 8);
        due("12: load(5), of the way with the greater number", two.load(5), 0);
        due("12: load(0)", two.load(0), 4);
        net.setRouter(3, false);
        due("12: load of a router that is down", net.load(3), 0);
        due("12: load(1) of the short chain", net.load(1), 2);
        for (int r : NOT_ROUTERS) {
            due("12: load(" + r + ")", net.load(r), 0);
        }
    }

    private static void linkLoad() {
        LabelNet net = chain();
        for (int r = 0; r < ROUTERS - 1; r++) {
            due("13: linkLoad of link " + r, net.linkLoad(r, r + 1), 2 * (r + 1) * (6 - r));
            due("13: linkLoad of link " + r + " turned", net.linkLoad(r + 1, r), 2 * (r + 1) * (6 - r));
        }
        due("13: no link", net.linkLoad(0, 2), 0);
        due("13: linkLoad(1, 1)", net.linkLoad(1, 1), 0);
        net.join(0, 2, 4);
        due("13: a link that no route takes", net.linkLoad(0, 2), 0);
        net.setLink(2, 3, false);
        due("13: a link that is down", net.linkLoad(2, 3), 0);
        net.setRouter(6, false);
        due("13: a link at a router that is down", net.linkLoad(5, 6), 0);
        due("13: linkLoad(4, 5)", net.linkLoad(4, 5), 4);
        LabelNet two = twoWays();
        due("13: linkLoad(0, 5)", two.linkLoad(0, 5), 6);
        due("13: linkLoad(0, 2)", two.linkLoad(0, 2), 12);
    }

    private static void reachable() {
        LabelNet net = chain();
        due("14: reachable(0)", net.reachable(0), 126);
        due("14: reachable(3)", net.reachable(3), 119);
        due("14: reachable(6)", net.reachable(6), 63);
        net.setLink(2, 3, false);
        due("14: reachable(2)", net.reachable(2), 3);
        due("14: reachable(3)", net.reachable(3), 112);
        net.setRouter(5, false);
        due("14: reachable(4)", net.reachable(4), 8);
        due("14: reachable(5), which is down", net.reachable(5), 0);
        due("14: reachable(6), which is alone", net.reachable(6), 0);
        for (int r : NOT_ROUTERS) {
            due("14: reachable(" + r + ")", net.reachable(r), 0);
        }
    }

    private static void farthest() {
        LabelNet net = chain();
        int[] greatest = {21, 20, 18, 15, 11, 15, 21};
        for (int r = 0; r < ROUTERS; r++) {
            due("15: farthest(" + r + ")", net.farthest(r), greatest[r]);
        }
        net.setRouter(5, false);
        due("15: farthest(0)", net.farthest(0), 10);
        due("15: farthest(5), which is down", net.farthest(5), -1);
        due("15: farthest(6), which is alone", net.farthest(6), 0);
        for (int r : NOT_ROUTERS) {
            due("15: farthest(" + r + ")", net.farthest(r), -1);
        }
    }

    private static void impact() {
        LabelNet net = chain();
        due("16: routes disappear", net.impact(2, 3), 24);
        due("16: turned", net.impact(3, 2), 24);
        net.setLink(2, 3, false);
        due("16: routes appear", net.impact(2, 3), 24);
        net.setRouter(3, false);
        due("16: a router is down", net.impact(2, 3), 0);
        due("16: a router is down, the link up", net.impact(3, 4), 0);
        due("16: no link", net.impact(0, 2), 0);
        due("16: impact(1, 1)", net.impact(1, 1), 0);
        net.join(0, 2, 4);
        due("16: a link that no route takes", net.impact(0, 2), 0);
        LabelNet square = new LabelNet();
        square.join(0, 1, 1);
        square.join(1, 2, 1);
        square.join(0, 3, 5);
        square.join(3, 2, 5);
        due("16: routes change", square.impact(0, 1), 6);
    }

    private static void impactChangesNothing() {
        LabelNet net = twoWays();
        net.setLink(0, 2, false);
        int[] before = answers(net);
        // Each link once: a turn that stays would be undone by a second one.
        for (int a = 0; a < ROUTERS; a++) {
            for (int b = a + 1; b < ROUTERS; b++) {
                net.impact(a, b);
            }
        }
        int[] later = answers(net);
        for (int i = 0; i < before.length; i++) {
            due("16: nothing changes, answer " + i, later[i], before[i]);
        }
    }

    /** Costs, distances and next hops of all pairs: 147 calls. */
    private static int[] answers(LabelNet net) {
        int[] found = new int[3 * ROUTERS * ROUTERS];
        int at = 0;
        for (int a = 0; a < ROUTERS; a++) {
            for (int b = 0; b < ROUTERS; b++) {
                found[at++] = net.cost(a, b);
                found[at++] = net.distance(a, b);
                found[at++] = net.nextHop(a, b);
            }
        }
        return found;
    }

    /** From 0 to 4 the distance and the first hop stay the same: only the middle of the route tells the change. */
    private static void impactOfRoutesOfEqualCost() {
        LabelNet net = new LabelNet();
        net.join(0, 1, 1);
        net.join(1, 2, 1);
        net.join(1, 3, 1);
        net.join(2, 4, 1);
        net.join(3, 4, 1);
        due("16: 1 - 2 goes down", net.impact(1, 2), 10);
        net.setLink(1, 2, false);
        due("16: 1 - 2 comes up", net.impact(1, 2), 10);
    }

    private static void noLinkOutsideTheRouters() {
        LabelNet net = chain();
        net.join(0, 6, 9);
        for (int r : NOT_ROUTERS) {
            for (int a = 0; a < 2; a++) {
                int s = a == 0 ? r : a;
                int d = a == 0 ? a : r;
                due("3: cut(" + s + ", " + d + ")", net.cut(s, d), false);
                due("4: setLink(" + s + ", " + d + ", false)", net.setLink(s, d, false), false);
                due("6: cost(" + s + ", " + d + ")", net.cost(s, d), -1);
                due("13: linkLoad(" + s + ", " + d + ")", net.linkLoad(s, d), 0);
                due("16: impact(" + s + ", " + d + ")", net.impact(s, d), 0);
            }
        }
        due("3: every link has stayed", net.distance(0, 5), 15);
    }
}
