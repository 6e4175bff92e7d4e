import java.util.function.Function;
import java.util.function.Supplier;
import java.util.function.ToIntFunction;

/**
 * Each sentence of the document that names a boundary case has a method of its own here, which begins with the
 * sentence; what follows a colon in it tells the case that is meant. No object is called more than 512 times, as the
 * document promises nothing after that.
 */
public final class BoundaryTest {
    private static final int ROUTERS = 7;
    private static final int LAST_CALL = 512;
    private static final int LEAST = Integer.MIN_VALUE;
    private static final int GREATEST = Integer.MAX_VALUE;

    // Beside the nearest and the farthest numbers: some that look like a router after a mask (8), a cast to byte or
    // short (256, 65536), a shift (32) or a multiplication by 7 that wraps around (613566757 gives 3).
    private static final int[] NOT_ROUTERS = {-1, 7, LEAST, GREATEST, 8, -7, 32, 49, 256, 65536, 613566757};
    private static final int[] NOT_COSTS = {0, 10, -1, LEAST, GREATEST, 17, 257, 65537};
    private static final int[] BELOW_0 = {-1, -2, -7, LEAST, LEAST + 1};

    // For k and n, where there is no distance: within a route, beside it, and far from it.
    private static final int[] NUMBERS = {0, 1, -1, LEAST, GREATEST};
    // In a net of 0 - 1 and 2 - 3 with router 3 down.
    private static final int[][] WITH_NO_DISTANCE = {{0, 2}, {2, 3}, {3, 2}, {3, 3}};

    private static int wrong = 0;
    private static String sentence = "";

    public static void main(String[] args) {
        whatItIs();
        terms();
        newObject();
        join();
        cut();
        setLink();
        setRouter();
        cost();
        distance();
        nextHop();
        hops();
        routeAt();
        after();
        load();
        linkLoad();
        reachable();
        farthest();
        impact();
        System.out.println(wrong == 0 ? "all answers are as due" : wrong + " answers are not as due");
        if (wrong != 0) {
            System.exit(1);
        }
    }

    // ---- What the tests are made of

    private static void of(String place, String words) {
        sentence = place + ": \"" + words + "\"";
    }

    private static void due(String call, int got, int want) {
        if (got != want) {
            wrong++;
            System.out.println(sentence + ": " + call + " answered " + got + ", due is " + want);
        }
    }

    private static void due(String call, boolean got, boolean want) {
        due(call, got ? 1 : 0, want ? 1 : 0);
    }

    private static String call(String name, int... arguments) {
        StringBuilder text = new StringBuilder(name).append('(');
        for (int i = 0; i < arguments.length; i++) {
            text.append(i == 0 ? "" : ", ").append(arguments[i]);
        }
        return text.append(')').toString();
    }

    /** A net of links that are told as a, b, cost, a, b, cost, and so on. */
    private static LabelNet net(int... links) {
        LabelNet net = new LabelNet();
        for (int i = 0; i < links.length; i += 3) {
            net.join(links[i], links[i + 1], links[i + 2]);
        }
        return net;
    }

    /** The routers in this order, each joined to the one before it. */
    private static LabelNet line(int cost, int... order) {
        LabelNet net = new LabelNet();
        for (int i = 1; i < order.length; i++) {
            net.join(order[i - 1], order[i], cost);
        }
        return net;
    }

    private static LabelNet wholeLine() {
        return line(1, 0, 1, 2, 3, 4, 5, 6);
    }

    private static LabelNet star(int centre) {
        LabelNet net = new LabelNet();
        for (int r = 0; r < ROUTERS; r++) {
            // Refused for the centre itself.
            net.join(centre, r, 1);
        }
        return net;
    }

    /** Some links missing, some up, two down (2 - 3 and 4 - 5), and router 6 down. */
    private static LabelNet sparse() {
        LabelNet net = net(0, 1, 2, 1, 2, 2, 2, 3, 2, 0, 3, 6, 3, 4, 1, 4, 5, 3, 5, 6, 1, 6, 0, 4, 1, 4, 5);
        net.setLink(2, 3, false);
        net.setLink(4, 5, false);
        net.setRouter(6, false);
        return net;
    }

    /** Every link there can be, two of them down, and router 3 down: a wrong number that is not looked at meets one. */
    private static LabelNet full() {
        LabelNet net = new LabelNet();
        for (int a = 0; a < ROUTERS; a++) {
            for (int b = a + 1; b < ROUTERS; b++) {
                net.join(a, b, 1 + (5 * a + b) % 9);
            }
        }
        net.setLink(0, 6, false);
        net.setLink(1, 3, false);
        net.setRouter(3, false);
        return net;
    }

    /** 147 calls. */
    private static int[] answers(LabelNet net) {
        int[] found = new int[3 * ROUTERS * ROUTERS];
        int at = 0;
        for (int a = 0; a < ROUTERS; a++) {
            for (int b = 0; b < ROUTERS; b++) {
                found[at++] = net.cost(a, b);
                found[at++] = net.distance(a, b);
                found[at++] = net.nextHop(a, b);
            }
        }
        return found;
    }

    private static void allRoutersUp(LabelNet net) {
        for (int r = 0; r < ROUTERS; r++) {
            net.setRouter(r, true);
        }
    }

    /** How many answers differ; a router that is down hides whether its links are, so once more with all up. */
    private static int differences(LabelNet one, LabelNet other) {
        int differences = 0;
        for (int round = 0; round < 2; round++) {
            int[] ofOne = answers(one);
            int[] ofOther = answers(other);
            for (int i = 0; i < ofOne.length; i++) {
                if (ofOne[i] != ofOther[i]) {
                    differences++;
                }
            }
            allRoutersUp(one);
            allRoutersUp(other);
        }
        return differences;
    }

    private static void refused(String call, Supplier<LabelNet> made, Function<LabelNet, Boolean> change) {
        LabelNet net = made.get();
        due(call, change.apply(net), false);
        due("what differs after " + call, differences(net, made.get()), 0);
    }

    private static void refused(String call, Function<LabelNet, Boolean> change) {
        refused(call, BoundaryTest::sparse, change);
        refused(call, BoundaryTest::full, change);
    }

    private static boolean isMissing(int a, int b) {
        return sparse().cost(a, b) == LabelNet.NONE;
    }

    // ---- What it is

    private static void whatItIs() {
        of("What it is", "used for at most 512 calls");
        lastCallAfterJoins();
        lastCallAfterCuts();
        lastCallAfterTurns();
        lastCallOfEachChange();
        lastCallOfQuestions();
        lastCallOfQuestionsToANewObject();
    }

    private static void lastCallAfterJoins() {
        LabelNet joined = new LabelNet();
        for (int i = 1; i < LAST_CALL; i++) {
            due("join number " + i, joined.join(i % 7, (i + 1) % 7, 1 + i % 9), true);
        }
        // Call 511 is join(0, 1, 8).
        due("cost(0, 1) as call 512", joined.cost(0, 1), 8);
        LabelNet refused = net(0, 1, 5);
        for (int i = 2; i < LAST_CALL; i++) {
            due("refused join as call " + i, refused.join(0, 1, 10), false);
        }
        due("join as call 512", refused.join(1, 2, 1), true);
    }

    private static void lastCallAfterCuts() {
        LabelNet net = new LabelNet();
        for (int i = 1; i < LAST_CALL; i += 2) {
            due("join as call " + i, net.join(5, 6, 3), true);
            due("cut as call " + (i + 1), net.cut(6, 5), true);
        }
        LabelNet refused = net(0, 1, 5);
        for (int i = 2; i < LAST_CALL; i++) {
            due("refused cut as call " + i, refused.cut(0, 2), false);
        }
        due("cut as call 512", refused.cut(0, 1), true);
    }

    private static void lastCallAfterTurns() {
        LabelNet links = net(0, 1, 5);
        LabelNet routers = net(0, 1, 5);
        for (int i = 2; i < LAST_CALL; i++) {
            due("setLink as call " + i, links.setLink(0, 1, i % 2 == 1), true);
            due("setRouter as call " + i, routers.setRouter(0, i % 2 == 1), true);
        }
        due("distance(0, 1) as call 512, after setLink", links.distance(0, 1), 5);
        due("distance(0, 1) as call 512, after setRouter", routers.distance(0, 1), 5);
    }

    /** Each of the 512 calls is the same one; setLink needs a link, and so one call before. */
    private static void lastCallOfEachChange() {
        LabelNet joins = new LabelNet();
        LabelNet routers = new LabelNet();
        LabelNet links = net(0, 1, 5);
        for (int i = 1; i <= LAST_CALL; i++) {
            due("join as call " + i, joins.join(0, 1, 5), true);
            due("setRouter as call " + i, routers.setRouter(0, true), true);
        }
        for (int i = 2; i <= LAST_CALL; i++) {
            due("setLink as call " + i, links.setLink(0, 1, true), true);
        }
    }

    private static void lastCallOfQuestions() {
        askTillTheLastCall("cost(2, 3)", net -> net.cost(2, 3), 1);
        askTillTheLastCall("distance(0, 6)", net -> net.distance(0, 6), 6);
        askTillTheLastCall("nextHop(6, 0)", net -> net.nextHop(6, 0), 5);
        askTillTheLastCall("hops(0, 6)", net -> net.hops(0, 6), 6);
        askTillTheLastCall("routeAt(0, 6, 4)", net -> net.routeAt(0, 6, 4), 4);
        askTillTheLastCall("after(0, 6, 9)", net -> net.after(0, 6, 9), 6);
        askTillTheLastCall("load(3)", net -> net.load(3), 18);
        askTillTheLastCall("linkLoad(2, 3)", net -> net.linkLoad(2, 3), 24);
        askTillTheLastCall("reachable(3)", net -> net.reachable(3), 119);
        askTillTheLastCall("farthest(3)", net -> net.farthest(3), 3);
        askTillTheLastCall("impact(3, 2)", net -> net.impact(3, 2), 24);
    }

    private static void askTillTheLastCall(String call, ToIntFunction<LabelNet> question, int want) {
        // The line takes six calls.
        ask(wholeLine(), 7, call, question, want);
    }

    private static void lastCallOfQuestionsToANewObject() {
        ask(new LabelNet(), 1, "cost(2, 3)", net -> net.cost(2, 3), -1);
        ask(new LabelNet(), 1, "distance(6, 6)", net -> net.distance(6, 6), 0);
        ask(new LabelNet(), 1, "nextHop(6, 0)", net -> net.nextHop(6, 0), -1);
        ask(new LabelNet(), 1, "hops(6, 6)", net -> net.hops(6, 6), 0);
        ask(new LabelNet(), 1, "routeAt(6, 6, 0)", net -> net.routeAt(6, 6, 0), 6);
        ask(new LabelNet(), 1, "after(6, 6, 9)", net -> net.after(6, 6, 9), 6);
        ask(new LabelNet(), 1, "load(3)", net -> net.load(3), 0);
        ask(new LabelNet(), 1, "linkLoad(2, 3)", net -> net.linkLoad(2, 3), 0);
        ask(new LabelNet(), 1, "reachable(3)", net -> net.reachable(3), 0);
        ask(new LabelNet(), 1, "farthest(3)", net -> net.farthest(3), 0);
        ask(new LabelNet(), 1, "impact(3, 2)", net -> net.impact(3, 2), 0);
    }

    private static void ask(LabelNet net, int first, String call, ToIntFunction<LabelNet> question, int want) {
        for (int i = first; i <= LAST_CALL; i++) {
            due(call + " as call " + i, question.applyAsInt(net), want);
        }
    }

    // ---- Terms

    private static void terms() {
        sameBothWays();
        countsWhenAllAreUp();
        throughARouterThatIsDown();
        leastCost();
        sumOfTheCosts();
        itselfByItsOwnWay();
        leastNumberOfFive();
        leastNumberAndTheLinkItself();
        leastNumberOnlyAmongTheCheapest();
        leastNumberAtEachHop();
        routeBackIsItsOwn();
        longestRoute();
    }

    private static void sameBothWays() {
        of("Terms", "with a cost (1 .. 9), the same both ways");
        for (int cost = 1; cost <= 9; cost++) {
            LabelNet net = net(6, 0, cost);
            due("cost(0, 6)", net.cost(0, 6), cost);
            due("cost(6, 0)", net.cost(6, 0), cost);
            due("distance(0, 6)", net.distance(0, 6), cost);
            due("distance(6, 0)", net.distance(6, 0), cost);
        }
    }

    private static void countsWhenAllAreUp() {
        of("Terms", "a link COUNTS when it is up and both its routers are");
        for (int which = 0; which < 8; which++) {
            LabelNet net = net(0, 6, 4);
            net.setLink(0, 6, (which & 1) != 0);
            net.setRouter(0, (which & 2) != 0);
            net.setRouter(6, (which & 4) != 0);
            int length = which == 7 ? 4 : -1;
            due("distance(0, 6), ups " + which, net.distance(0, 6), length);
            due("distance(6, 0), ups " + which, net.distance(6, 0), length);
            due("nextHop(0, 6), ups " + which, net.nextHop(0, 6), which == 7 ? 6 : -1);
            due("linkLoad(0, 6), ups " + which, net.linkLoad(0, 6), which == 7 ? 2 : 0);
        }
    }

    private static void throughARouterThatIsDown() {
        of("Terms", "every two neighbours are joined by a link that counts");
        for (int r = 1; r < ROUTERS - 1; r++) {
            LabelNet net = wholeLine();
            net.setRouter(r, false);
            due("distance(0, 6) without router " + r, net.distance(0, 6), -1);
            due("distance(0, " + (r - 1) + ") without router " + r, net.distance(0, r - 1), r - 1);
            net.setRouter(r, true);
            net.setLink(r, r + 1, false);
            due("distance(6, 0) without the link behind " + r, net.distance(6, 0), -1);
            due("distance(0, " + r + ") without the link behind it", net.distance(0, r), r);
        }
    }

    private static void leastCost() {
        of("Terms", "The DISTANCE from s to d is the least cost of a way");
        LabelNet net = line(1, 0, 1, 2, 3, 4, 5, 6);
        net.join(0, 6, 7);
        due("one dear link against six, by one", net.distance(0, 6), 6);
        net.join(0, 6, 6);
        due("one link as dear as six", net.distance(0, 6), 6);
        net.join(0, 6, 5);
        due("one link cheaper than six, by one", net.distance(0, 6), 5);
    }

    private static void sumOfTheCosts() {
        of("Terms", "its cost is the sum of the costs of these links");
        due("the greatest distance", line(9, 0, 1, 2, 3, 4, 5, 6).distance(0, 6), 54);
        due("the least distance of six links", wholeLine().distance(6, 0), 6);
        due("links of all kinds", net(0, 1, 9, 1, 2, 1, 2, 3, 8, 3, 4, 2, 4, 5, 7, 5, 6, 3).distance(0, 6), 30);
    }

    private static void itselfByItsOwnWay() {
        of("Terms", "0 from a router that is up to itself, by the way of s alone");
        for (int r = 0; r < ROUTERS; r++) {
            due(call("distance", r, r), new LabelNet().distance(r, r), 0);
            due(call("distance", r, r) + " with links", wholeLine().distance(r, r), 0);
            LabelNet net = wholeLine();
            net.setRouter(r, false);
            due(call("distance", r, r) + " down", net.distance(r, r), -1);
            net.setRouter(r, true);
            due(call("distance", r, r) + " up again", net.distance(r, r), 0);
        }
    }

    /** s and d, and all the others between them: each other one is the least when the lesser ones are down. */
    private static void leastNumberOfFive() {
        of("Terms", "the one with the least number");
        for (int s = 0; s < ROUTERS; s++) {
            for (int d = 0; d < ROUTERS; d++) {
                if (s != d) {
                    leastNumberBetween(s, d);
                }
            }
        }
    }

    private static LabelNet allBetween(int s, int d) {
        LabelNet net = new LabelNet();
        for (int r = ROUTERS - 1; r >= 0; r--) {
            if (r != s && r != d) {
                net.join(s, r, 4);
                net.join(r, d, 4);
            }
        }
        return net;
    }

    private static void leastNumberBetween(int s, int d) {
        LabelNet net = allBetween(s, d);
        for (int r = 0; r < ROUTERS; r++) {
            if (r != s && r != d) {
                due(call("nextHop", s, d), net.nextHop(s, d), r);
                due(call("nextHop", d, s), net.nextHop(d, s), r);
                due(call("routeAt", s, d, 1), net.routeAt(s, d, 1), r);
                due(call("load", r), net.load(r), 2);
                net.setRouter(r, false);
            }
        }
        due(call("nextHop", s, d) + " with none between", net.nextHop(s, d), -1);
    }

    private static void leastNumberAndTheLinkItself() {
        of("Terms", "of the routers r joined to s by a link that counts ... the one with the least number");
        for (int s = 0; s < ROUTERS; s++) {
            for (int d = 0; d < ROUTERS; d++) {
                if (s == d) {
                    continue;
                }
                LabelNet net = allBetween(s, d);
                net.join(s, d, 8);
                int least = s == 0 ? 1 : 0;
                due(call("nextHop", s, d), net.nextHop(s, d), least);
                due(call("hops", s, d), net.hops(s, d), least == d ? 1 : 2);
            }
        }
    }

    private static void leastNumberOnlyAmongTheCheapest() {
        of("Terms", "the cost of that link plus the distance from r to d is the distance from s to d");
        LabelNet net = net(6, 0, 1, 0, 5, 9, 6, 1, 4, 1, 5, 5, 6, 2, 5, 2, 5, 3, 6, 4, 1, 4, 5, 7);
        due("nextHop(6, 5), 2 and 4 at cost 8", net.nextHop(6, 5), 2);
        due("distance(6, 5)", net.distance(6, 5), 8);
        net.join(2, 5, 4);
        due("nextHop(6, 5), 4 at cost 8", net.nextHop(6, 5), 4);
        net.join(4, 5, 8);
        due("nextHop(6, 5), 1, 2 and 4 at cost 9", net.nextHop(6, 5), 1);
        net.join(0, 5, 8);
        due("nextHop(6, 5), 0, 1, 2 and 4 at cost 9", net.nextHop(6, 5), 0);
    }

    private static void leastNumberAtEachHop() {
        of("Terms", "s, the next hop from s to d, the next hop from that one to d, and so on up to d");
        LabelNet net = net(0, 2, 1, 0, 1, 1, 1, 3, 1, 2, 3, 1, 3, 5, 1, 3, 4, 1, 4, 6, 1, 5, 6, 1);
        route(net, 0, 1, 3, 4, 6);
        route(net, 6, 4, 3, 1, 0);
        net.setLink(3, 4, false);
        route(net, 0, 1, 3, 5, 6);
        net.setRouter(1, false);
        route(net, 6, 5, 3, 2, 0);
        // A greater number first, though the way through it has a lesser one later on.
        route(net(0, 2, 1, 2, 6, 2, 0, 3, 1, 3, 1, 1, 1, 6, 1), 0, 2, 6);
        // More links, as the first of them leads to a lesser number.
        route(net(0, 3, 2, 3, 6, 2, 0, 2, 1, 2, 5, 1, 5, 4, 1, 4, 6, 1), 0, 2, 5, 4, 6);
    }

    private static void routeBackIsItsOwn() {
        of("Terms", "The ROUTE from s to d");
        LabelNet net = net(0, 1, 1, 1, 5, 1, 5, 6, 1, 0, 2, 1, 2, 4, 1, 4, 6, 1);
        route(net, 0, 1, 5, 6);
        route(net, 6, 4, 2, 0);
    }

    private static void route(LabelNet net, int... routers) {
        int s = routers[0];
        int last = routers.length - 1;
        int d = routers[last];
        due(call("hops", s, d), net.hops(s, d), last);
        for (int k = 0; k <= last; k++) {
            due(call("routeAt", s, d, k), net.routeAt(s, d, k), routers[k]);
            due(call("after", s, d, k), net.after(s, d, k), routers[k]);
            due(call("nextHop", routers[k], d), net.nextHop(routers[k], d), k == last ? -1 : routers[k + 1]);
        }
        due(call("routeAt", s, d, last + 1), net.routeAt(s, d, last + 1), -1);
    }

    private static void longestRoute() {
        of("Terms", "and so on up to d: the longest route that seven routers allow");
        int[][] orders = {{0, 1, 2, 3, 4, 5, 6}, {6, 5, 4, 3, 2, 1, 0}, {3, 0, 6, 1, 5, 2, 4}, {5, 1, 4, 0, 3, 6, 2}};
        for (int[] order : orders) {
            LabelNet net = line(9, order);
            route(net, order);
            due("distance", net.distance(order[0], order[6]), 54);
            due("farthest", net.farthest(order[0]), 54);
            for (int i = 0; i < ROUTERS; i++) {
                due("load of router " + i + " of the line", net.load(order[i]), 2 * i * (6 - i));
            }
            for (int i = 1; i < ROUTERS; i++) {
                due("linkLoad of link " + i + " of the line", net.linkLoad(order[i - 1], order[i]), 2 * i * (7 - i));
                due("impact of link " + i + " of the line", net.impact(order[i - 1], order[i]), 2 * i * (7 - i));
            }
        }
    }

    // ---- Promise 1

    private static void newObject() {
        newObjectHasNoLinks();
        newObjectHasAllRoutersUp();
        noObjectSeesAnother();
    }

    private static void newObjectHasNoLinks() {
        of("1", "No links");
        LabelNet net = new LabelNet();
        for (int a = 0; a < ROUTERS; a++) {
            for (int b = 0; b < ROUTERS; b++) {
                due(call("cost", a, b), net.cost(a, b), -1);
                due(call("distance", a, b), net.distance(a, b), a == b ? 0 : -1);
                due(call("cut", a, b), net.cut(a, b), false);
                due(call("setLink up", a, b), net.setLink(a, b, true), false);
                due(call("impact", a, b), net.impact(a, b), 0);
                due(call("linkLoad", a, b), net.linkLoad(a, b), 0);
            }
        }
    }

    private static void newObjectHasAllRoutersUp() {
        of("1", "all routers are up");
        LabelNet net = new LabelNet();
        for (int r = 0; r < ROUTERS; r++) {
            due(call("distance", r, r), net.distance(r, r), 0);
            due(call("farthest", r), net.farthest(r), 0);
            due(call("reachable", r), net.reachable(r), 0);
            due(call("load", r), net.load(r), 0);
        }
    }

    private static void noObjectSeesAnother() {
        of("1", "No links; all routers are up: also beside an object that is used");
        LabelNet first = new LabelNet();
        first.join(0, 1, 1);
        first.setRouter(2, false);
        LabelNet second = new LabelNet();
        due("cost(0, 1)", second.cost(0, 1), -1);
        due("distance(2, 2)", second.distance(2, 2), 0);
        second.join(0, 1, 9);
        due("cost(0, 1) of the first", first.cost(0, 1), 1);
    }

    // ---- Promise 2

    private static void join() {
        joinTakesEveryPairAndCost();
        joinInPlaceOfALink();
        joinInPlaceOfALinkThatIsDown();
        joinAtARouterThatIsDown();
        joinOfARouterWithItself();
        joinOutsideTheRouters();
        joinOutsideTheCosts();
    }

    private static void joinTakesEveryPairAndCost() {
        of("2", "Joins a and b by a link with this cost that is up; answers true");
        for (int a = 0; a < ROUTERS; a++) {
            for (int b = 0; b < ROUTERS; b++) {
                for (int cost = 1; cost <= 9 && a != b; cost++) {
                    LabelNet net = new LabelNet();
                    due(call("join", a, b, cost), net.join(a, b, cost), true);
                    due(call("cost", a, b), net.cost(a, b), cost);
                    due(call("distance", b, a), net.distance(b, a), cost);
                    due(call("reachable", a), net.reachable(a), 1 << b);
                }
            }
        }
    }

    private static void joinInPlaceOfALink() {
        of("2", "in place of any link they had");
        LabelNet net = net(2, 4, 5, 4, 5, 1);
        int[] costs = {9, 1, 1, 5};
        for (int cost : costs) {
            due(call("join", 4, 2, cost), net.join(4, 2, cost), true);
            due("cost(2, 4)", net.cost(2, 4), cost);
            due("cost(4, 2)", net.cost(4, 2), cost);
            due("distance(2, 5)", net.distance(2, 5), cost + 1);
        }
        due("cost(4, 5), of another link", net.cost(4, 5), 1);
        due("cut(2, 4), of the one link there is", net.cut(2, 4), true);
        due("cut(2, 4) again", net.cut(2, 4), false);
    }

    private static void joinInPlaceOfALinkThatIsDown() {
        of("2", "in place of any link they had: a link that was down is up again, with the new cost");
        for (int cost = 1; cost <= 9; cost++) {
            LabelNet net = net(2, 4, 5);
            net.setLink(2, 4, false);
            due(call("join", 4, 2, cost), net.join(4, 2, cost), true);
            due("distance(2, 4)", net.distance(2, 4), cost);
            due("distance(4, 2)", net.distance(4, 2), cost);
            due("cost(2, 4)", net.cost(2, 4), cost);
            due("linkLoad(2, 4)", net.linkLoad(2, 4), 2);
        }
    }

    private static void joinAtARouterThatIsDown() {
        of("2", "Joins a and b, though a router is down: no case of the refused ones");
        LabelNet net = new LabelNet();
        net.setRouter(0, false);
        net.setRouter(6, false);
        due("join(0, 6, 7)", net.join(0, 6, 7), true);
        due("cost(0, 6)", net.cost(0, 6), 7);
        due("distance(0, 6), both down", net.distance(0, 6), -1);
        net.setRouter(0, true);
        due("distance(0, 6), one down", net.distance(0, 6), -1);
        net.setRouter(6, true);
        due("distance(0, 6), none down", net.distance(0, 6), 7);
    }

    private static void joinOfARouterWithItself() {
        of("2", "False, changing nothing, when a = b");
        for (int r = 0; r < ROUTERS; r++) {
            int same = r;
            refused(call("join", r, r, 1), net -> net.join(same, same, 1));
            refused(call("join", r, r, 9), net -> net.join(same, same, 9));
        }
        for (int r : NOT_ROUTERS) {
            refused(call("join", r, r, 1), net -> net.join(r, r, 1));
        }
    }

    private static void joinOutsideTheRouters() {
        of("2", "False, changing nothing, when a or b is not 0 .. 6");
        for (int r : NOT_ROUTERS) {
            for (int other = 0; other < ROUTERS; other++) {
                int b = other;
                refused(call("join", r, b, 1), net -> net.join(r, b, 1));
                refused(call("join", b, r, 9), net -> net.join(b, r, 9));
            }
            for (int other : NOT_ROUTERS) {
                refused(call("join", r, other, 1), net -> net.join(r, other, 1));
            }
            refused(call("join", r, 0, 0), net -> net.join(r, 0, 0));
        }
    }

    private static void joinOutsideTheCosts() {
        of("2", "False, changing nothing, when cost is not 1 .. 9");
        for (int cost : NOT_COSTS) {
            refused(call("join", 0, 1, cost) + " of a link that is up", net -> net.join(0, 1, cost));
            refused(call("join", 3, 2, cost) + " of a link that is down", BoundaryTest::sparse,
                    net -> net.join(3, 2, cost));
            refused(call("join", 0, 6, cost) + " at a router or a link that is down", net -> net.join(0, 6, cost));
            refused(call("join", 1, 3, cost) + " of no link, or of one that is down", net -> net.join(1, 3, cost));
            refused(call("join", 2, 2, cost), net -> net.join(2, 2, cost));
        }
    }

    // ---- Promise 3

    private static void cut() {
        cutTakesTheLinkAway();
        cutOfWhatDoesNotCount();
        cutOfNoLink();
        cutOutsideTheRouters();
    }

    private static void cutTakesTheLinkAway() {
        of("3", "Takes the link between a and b away and answers true");
        for (int a = 0; a < ROUTERS; a++) {
            for (int b = 0; b < ROUTERS; b++) {
                if (a == b) {
                    continue;
                }
                LabelNet net = net(a, b, 9);
                due(call("cut", b, a), net.cut(b, a), true);
                due(call("cost", a, b), net.cost(a, b), -1);
                due(call("cost", b, a), net.cost(b, a), -1);
                due(call("distance", a, b), net.distance(a, b), -1);
                due(call("cut", a, b) + " again", net.cut(a, b), false);
                due(call("join", a, b, 1) + " anew", net.join(a, b, 1), true);
                due(call("distance", a, b) + " anew", net.distance(a, b), 1);
            }
        }
        LabelNet net = wholeLine();
        net.cut(2, 3);
        due("distance(0, 2) by the links that stayed", net.distance(0, 2), 2);
        due("distance(3, 6) by the links that stayed", net.distance(3, 6), 3);
    }

    private static void cutOfWhatDoesNotCount() {
        of("3", "Takes the link between a and b away, also one that is down or at a router that is down");
        LabelNet net = sparse();
        due("cut(3, 2), which is down", net.cut(3, 2), true);
        due("cost(2, 3)", net.cost(2, 3), -1);
        due("cut(6, 5), at a router that is down", net.cut(6, 5), true);
        due("cost(5, 6)", net.cost(5, 6), -1);
        net.setRouter(6, true);
        due("distance(5, 6)", net.distance(5, 6), -1);
        due("join(2, 3, 7) where a link was that was down", net.join(2, 3, 7), true);
        due("distance(2, 3)", net.distance(2, 3), 7);
    }

    private static void cutOfNoLink() {
        of("3", "false, changing nothing, when there is none");
        for (int a = 0; a < ROUTERS; a++) {
            for (int b = 0; b < ROUTERS; b++) {
                int s = a;
                int d = b;
                if (isMissing(s, d)) {
                    refused(call("cut", s, d), BoundaryTest::sparse, net -> net.cut(s, d));
                }
            }
        }
    }

    private static void cutOutsideTheRouters() {
        of("3", "false, changing nothing, when there is none: there is none outside 0 .. 6");
        for (int r : NOT_ROUTERS) {
            for (int other = 0; other < ROUTERS; other++) {
                int b = other;
                refused(call("cut", r, b), net -> net.cut(r, b));
                refused(call("cut", b, r), net -> net.cut(b, r));
            }
            refused(call("cut", r, r), net -> net.cut(r, r));
        }
    }

    // ---- Promise 4

    private static void setLink() {
        setLinkTwice();
        setLinkKeepsTheCost();
        setLinkAtARouterThatIsDown();
        setLinkOfNoLink();
        setLinkOutsideTheRouters();
    }

    private static void setLinkTwice() {
        of("4", "Puts the link between a and b up or down and answers true");
        for (int a = 0; a < ROUTERS; a++) {
            for (int b = 0; b < ROUTERS; b++) {
                if (a == b) {
                    continue;
                }
                LabelNet net = net(a, b, 3);
                due(call("setLink up", b, a) + " of one that is up", net.setLink(b, a, true), true);
                due(call("distance", a, b) + " up", net.distance(a, b), 3);
                due(call("setLink down", b, a), net.setLink(b, a, false), true);
                due(call("distance", a, b) + " down", net.distance(a, b), -1);
                due(call("distance", b, a) + " down", net.distance(b, a), -1);
                due(call("setLink down", a, b) + " of one that is down", net.setLink(a, b, false), true);
                due(call("distance", a, b) + " down twice", net.distance(a, b), -1);
                due(call("setLink up", a, b), net.setLink(a, b, true), true);
                due(call("distance", b, a) + " up again", net.distance(b, a), 3);
            }
        }
    }

    private static void setLinkKeepsTheCost() {
        of("4", "Puts the link up or down: its cost and the other links stay");
        LabelNet net = wholeLine();
        net.join(2, 3, 8);
        net.setLink(2, 3, false);
        due("cost(2, 3)", net.cost(2, 3), 8);
        due("distance(0, 2)", net.distance(0, 2), 2);
        due("distance(3, 6)", net.distance(3, 6), 3);
        net.setLink(2, 3, true);
        due("distance(0, 6)", net.distance(0, 6), 13);
    }

    private static void setLinkAtARouterThatIsDown() {
        of("4", "Puts the link up or down, also at a router that is down");
        LabelNet net = net(5, 6, 2);
        net.setRouter(6, false);
        due("setLink(5, 6, false)", net.setLink(5, 6, false), true);
        net.setRouter(6, true);
        due("distance(5, 6), the link down", net.distance(5, 6), -1);
        net.setRouter(5, false);
        due("setLink(5, 6, true)", net.setLink(5, 6, true), true);
        due("distance(5, 6), the router down", net.distance(5, 6), -1);
        net.setRouter(5, true);
        due("distance(5, 6), all up", net.distance(5, 6), 2);
    }

    private static void setLinkOfNoLink() {
        of("4", "false, changing nothing, when there is none");
        for (int a = 0; a < ROUTERS; a++) {
            for (int b = 0; b < ROUTERS; b++) {
                int s = a;
                int d = b;
                if (isMissing(s, d)) {
                    refused(call("setLink up", s, d), BoundaryTest::sparse, net -> net.setLink(s, d, true));
                    refused(call("setLink down", s, d), BoundaryTest::sparse, net -> net.setLink(s, d, false));
                }
            }
        }
        LabelNet net = net(1, 2, 4);
        net.cut(1, 2);
        due("setLink(1, 2, false) after the cut", net.setLink(1, 2, false), false);
        due("setLink(1, 2, true) after the cut", net.setLink(1, 2, true), false);
        due("cost(1, 2)", net.cost(1, 2), -1);
        due("distance(1, 2)", net.distance(1, 2), -1);
    }

    private static void setLinkOutsideTheRouters() {
        of("4", "false, changing nothing, when there is none: there is none outside 0 .. 6");
        for (int r : NOT_ROUTERS) {
            for (int other = 0; other < ROUTERS; other++) {
                int b = other;
                refused(call("setLink down", r, b), net -> net.setLink(r, b, false));
                refused(call("setLink down", b, r), net -> net.setLink(b, r, false));
                refused(call("setLink up", r, b), net -> net.setLink(r, b, true));
                refused(call("setLink up", b, r), net -> net.setLink(b, r, true));
            }
            refused(call("setLink down", r, r), net -> net.setLink(r, r, false));
        }
    }

    // ---- Promise 5

    private static void setRouter() {
        setRouterTwice();
        setRouterKeepsTheLinks();
        setRouterOutsideTheRouters();
    }

    private static void setRouterTwice() {
        of("5", "Puts router r up or down and answers true");
        for (int r = 0; r < ROUTERS; r++) {
            LabelNet net = star(r);
            due(call("setRouter up", r) + " of one that is up", net.setRouter(r, true), true);
            due(call("farthest", r) + " up", net.farthest(r), 1);
            due(call("setRouter down", r), net.setRouter(r, false), true);
            due(call("farthest", r) + " down", net.farthest(r), -1);
            due(call("setRouter down", r) + " of one that is down", net.setRouter(r, false), true);
            due(call("farthest", r) + " down twice", net.farthest(r), -1);
            for (int other = 0; other < ROUTERS; other++) {
                due(call("distance", other, other), net.distance(other, other), other == r ? -1 : 0);
            }
            due(call("setRouter up", r), net.setRouter(r, true), true);
            due(call("reachable", r) + " up again", net.reachable(r), 127 - (1 << r));
        }
    }

    private static void setRouterKeepsTheLinks() {
        of("5", "Puts router r up or down: its links stay as they are");
        LabelNet net = net(0, 3, 2, 3, 6, 4, 3, 5, 1);
        net.setLink(3, 6, false);
        net.setRouter(3, false);
        due("cost(0, 3)", net.cost(0, 3), 2);
        due("cost(3, 6)", net.cost(3, 6), 4);
        net.setRouter(3, true);
        due("distance(0, 5)", net.distance(0, 5), 3);
        due("distance(3, 6), whose link is still down", net.distance(3, 6), -1);
        net.setLink(3, 6, true);
        due("distance(0, 6)", net.distance(0, 6), 6);
    }

    private static void setRouterOutsideTheRouters() {
        of("5", "false, changing nothing, when r is not 0 .. 6");
        for (int r : NOT_ROUTERS) {
            refused(call("setRouter down", r), net -> net.setRouter(r, false));
            refused(call("setRouter up", r), net -> net.setRouter(r, true));
        }
    }

    // ---- Promise 6

    private static void cost() {
        costUpOrDown();
        costOfNoLink();
        costOutsideTheRouters();
    }

    private static void costUpOrDown() {
        of("6", "whether it is up or down");
        for (int which = 0; which < 8; which++) {
            LabelNet net = net(0, 6, 9, 6, 5, 1);
            net.setLink(0, 6, (which & 1) != 0);
            net.setRouter(0, (which & 2) != 0);
            net.setRouter(6, (which & 4) != 0);
            due("cost(0, 6), ups " + which, net.cost(0, 6), 9);
            due("cost(6, 0), ups " + which, net.cost(6, 0), 9);
            due("cost(5, 6), ups " + which, net.cost(5, 6), 1);
        }
    }

    private static void costOfNoLink() {
        of("6", "NONE when there is none");
        LabelNet net = net(0, 1, 1, 1, 2, 1);
        due("cost(0, 2), which a way joins", net.cost(0, 2), -1);
        due("cost(2, 0), which a way joins", net.cost(2, 0), -1);
        due("cost(5, 6)", net.cost(5, 6), -1);
        for (int r = 0; r < ROUTERS; r++) {
            due(call("cost", r, r), net.cost(r, r), -1);
        }
        net.setLink(0, 1, false);
        net.cut(0, 1);
        due("cost(0, 1) after the cut", net.cost(0, 1), -1);
    }

    private static void costOutsideTheRouters() {
        of("6", "NONE when there is none: there is none outside 0 .. 6");
        noneOutside("cost", (net, pair) -> net.cost(pair[0], pair[1]), -1);
    }

    /** What a question about two routers answers when one of them is no router, or both are not. */
    private interface Pairwise {
        int of(LabelNet net, int[] pair);
    }

    private static void noneOutside(String name, Pairwise question, int want) {
        for (int r : NOT_ROUTERS) {
            LabelNet net = full();
            allRoutersUp(net);
            for (int other = 0; other < ROUTERS; other++) {
                due(call(name, r, other), question.of(net, new int[] {r, other}), want);
                due(call(name, other, r), question.of(net, new int[] {other, r}), want);
            }
            for (int other : NOT_ROUTERS) {
                due(call(name, r, other), question.of(net, new int[] {r, other}), want);
            }
        }
    }

    // ---- Promise 7

    private static void distance() {
        distanceWithNoWay();
        distanceOfARouterThatIsDown();
        distanceOutsideTheRouters();
    }

    private static void distanceWithNoWay() {
        of("7", "NONE when there is none: no way");
        LabelNet net = net(0, 1, 1, 2, 3, 1);
        due("distance(0, 2)", net.distance(0, 2), -1);
        due("distance(3, 1)", net.distance(3, 1), -1);
        due("distance(0, 6)", net.distance(0, 6), -1);
        net.join(1, 2, 1);
        due("distance(0, 3) when there is one", net.distance(0, 3), 3);
    }

    private static void distanceOfARouterThatIsDown() {
        of("7", "NONE when there is none: s or d is down");
        LabelNet net = line(1, 0, 1, 2, 3);
        net.setRouter(0, false);
        due("distance(0, 3)", net.distance(0, 3), -1);
        due("distance(3, 0)", net.distance(3, 0), -1);
        due("distance(0, 1)", net.distance(0, 1), -1);
        due("distance(1, 0)", net.distance(1, 0), -1);
        due("distance(0, 0)", net.distance(0, 0), -1);
        due("distance(1, 3), both up", net.distance(1, 3), 2);
    }

    private static void distanceOutsideTheRouters() {
        of("7", "NONE when s or d is not 0 .. 6");
        noneOutside("distance", (net, pair) -> net.distance(pair[0], pair[1]), -1);
    }

    // ---- Promise 8

    private static void nextHop() {
        nextHopWithNoDistance();
        nextHopToItself();
        nextHopOutsideTheRouters();
    }

    private static void nextHopWithNoDistance() {
        of("8", "NONE when there is none");
        LabelNet net = net(0, 1, 1, 2, 3, 1, 3, 4, 1);
        due("nextHop(0, 2), no way", net.nextHop(0, 2), -1);
        due("nextHop(0, 6), no link", net.nextHop(0, 6), -1);
        due("nextHop(6, 0), no link", net.nextHop(6, 0), -1);
        net.setRouter(4, false);
        due("nextHop(2, 4), d down", net.nextHop(2, 4), -1);
        due("nextHop(4, 2), s down", net.nextHop(4, 2), -1);
        due("nextHop(2, 3), a neighbour", net.nextHop(2, 3), 3);
        net.setLink(2, 3, false);
        due("nextHop(2, 3), the link down", net.nextHop(2, 3), -1);
    }

    private static void nextHopToItself() {
        of("8", "NONE also when s = d");
        LabelNet ring = line(1, 0, 1, 2, 3, 4, 5, 6, 0);
        for (int r = 0; r < ROUTERS; r++) {
            due(call("nextHop", r, r), ring.nextHop(r, r), -1);
            due(call("nextHop", r, r) + " without links", new LabelNet().nextHop(r, r), -1);
        }
        ring.setRouter(0, false);
        due("nextHop(0, 0), down", ring.nextHop(0, 0), -1);
    }

    private static void nextHopOutsideTheRouters() {
        of("8", "NONE when s or d is not 0 .. 6");
        noneOutside("nextHop", (net, pair) -> net.nextHop(pair[0], pair[1]), -1);
    }

    // ---- Promise 9

    private static void hops() {
        hopsOfTheRoute();
        hopsToItself();
        hopsWithNoDistance();
        hopsOutsideTheRouters();
    }

    private static void hopsOfTheRoute() {
        of("9", "The number of links of the route from s to d");
        LabelNet line = wholeLine();
        for (int s = 0; s < ROUTERS; s++) {
            for (int d = 0; d < ROUTERS; d++) {
                due(call("hops", s, d), line.hops(s, d), s < d ? d - s : s - d);
            }
        }
        due("hops(0, 2), of the least cost, not of the fewest links", net(0, 2, 3, 0, 1, 1, 1, 2, 1).hops(0, 2), 2);
    }

    private static void hopsToItself() {
        of("9", "0 when s = d and s is up");
        for (int r = 0; r < ROUTERS; r++) {
            LabelNet net = star(r);
            due(call("hops", r, r), net.hops(r, r), 0);
            net.setRouter(r, false);
            due(call("hops", r, r) + " down", net.hops(r, r), -1);
        }
    }

    private static void hopsWithNoDistance() {
        of("9", "NONE when there is no distance");
        LabelNet net = net(0, 1, 1, 2, 3, 1);
        due("hops(0, 2), no way", net.hops(0, 2), -1);
        net.setRouter(3, false);
        due("hops(2, 3), d down", net.hops(2, 3), -1);
        due("hops(3, 2), s down", net.hops(3, 2), -1);
    }

    private static void hopsOutsideTheRouters() {
        of("9", "NONE when s or d is not 0 .. 6");
        noneOutside("hops", (net, pair) -> net.hops(pair[0], pair[1]), -1);
    }

    // ---- Promise 10

    private static void routeAt() {
        routeAt0();
        routeAtOutsideTheRoute();
        routeAtWithNoDistance();
        routeAtOutsideTheRouters();
    }

    private static void routeAt0() {
        of("10", "Router number k of the route (0 is s)");
        for (int r = 0; r < ROUTERS; r++) {
            due(call("routeAt", r, r, 0), new LabelNet().routeAt(r, r, 0), r);
            due(call("routeAt", r, 6 - r, 0), wholeLine().routeAt(r, 6 - r, 0), r);
        }
    }

    private static void routeAtWithNoDistance() {
        of("10", "NONE when there is no distance");
        LabelNet net = net(0, 1, 1, 2, 3, 1);
        net.setRouter(3, false);
        for (int[] pair : WITH_NO_DISTANCE) {
            for (int k : NUMBERS) {
                due(call("routeAt", pair[0], pair[1], k), net.routeAt(pair[0], pair[1], k), -1);
            }
        }
    }

    private static void routeAtOutsideTheRouters() {
        of("10", "NONE when s or d is not 0 .. 6");
        for (int k : NUMBERS) {
            noneOutside("routeAt .. " + k, (net, pair) -> net.routeAt(pair[0], pair[1], k), -1);
        }
    }

    private static void routeAtOutsideTheRoute() {
        of("10", "NONE when k is not from 0 to hops(s, d)");
        for (int s = 0; s < ROUTERS; s++) {
            for (int d = 0; d < ROUTERS; d++) {
                LabelNet net = wholeLine();
                int last = s < d ? d - s : s - d;
                due(call("routeAt", s, d, last), net.routeAt(s, d, last), d);
                due(call("routeAt", s, d, last + 1), net.routeAt(s, d, last + 1), -1);
                due(call("routeAt", s, d, last + 7), net.routeAt(s, d, last + 7), -1);
                due(call("routeAt", s, d, GREATEST), net.routeAt(s, d, GREATEST), -1);
                due(call("routeAt", s, d, GREATEST - 1), net.routeAt(s, d, GREATEST - 1), -1);
                for (int k : BELOW_0) {
                    due(call("routeAt", s, d, k), net.routeAt(s, d, k), -1);
                }
            }
        }
    }

    // ---- Promise 11

    private static void after() {
        afterBelow0();
        afterTheWholeRoute();
        afterWithNoDistance();
        afterOutsideTheRouters();
    }

    private static void afterWithNoDistance() {
        of("11", "NONE when there is no distance");
        LabelNet net = net(0, 1, 1, 2, 3, 1);
        net.setRouter(3, false);
        for (int[] pair : WITH_NO_DISTANCE) {
            for (int n : NUMBERS) {
                due(call("after", pair[0], pair[1], n), net.after(pair[0], pair[1], n), -1);
            }
        }
    }

    private static void afterOutsideTheRouters() {
        of("11", "NONE when s or d is not 0 .. 6");
        for (int n : NUMBERS) {
            noneOutside("after .. " + n, (net, pair) -> net.after(pair[0], pair[1], n), -1);
        }
    }

    private static void afterBelow0() {
        of("11", "n below 0 counts as 0");
        for (int s = 0; s < ROUTERS; s++) {
            for (int d = 0; d < ROUTERS; d++) {
                LabelNet net = wholeLine();
                due(call("after", s, d, 0), net.after(s, d, 0), s);
                for (int n : BELOW_0) {
                    due(call("after", s, d, n), net.after(s, d, n), s);
                }
            }
        }
    }

    private static void afterTheWholeRoute() {
        of("11", "d when the route has at most n links");
        int[] more = {0, 1, 2, 7, 100};
        for (int s = 0; s < ROUTERS; s++) {
            for (int d = 0; d < ROUTERS; d++) {
                LabelNet net = wholeLine();
                int last = s < d ? d - s : s - d;
                for (int links : more) {
                    due(call("after", s, d, last + links), net.after(s, d, last + links), d);
                }
                due(call("after", s, d, GREATEST), net.after(s, d, GREATEST), d);
                due(call("after", s, d, GREATEST - 1), net.after(s, d, GREATEST - 1), d);
                if (s != d) {
                    due(call("after", s, d, last - 1), net.after(s, d, last - 1), s < d ? d - 1 : d + 1);
                }
            }
        }
    }

    // ---- Promise 12

    private static void load() {
        loadWithoutTheEnds();
        loadOfTheRoute();
        loadOutsideTheRouters();
    }

    private static void loadWithoutTheEnds() {
        of("12", "pairs (s, d) of different routers, neither of them r");
        for (int centre = 0; centre < ROUTERS; centre++) {
            LabelNet net = star(centre);
            for (int r = 0; r < ROUTERS; r++) {
                due(call("load", r) + " in the star of " + centre, net.load(r), r == centre ? 30 : 0);
            }
        }
        LabelNet two = net(0, 6, 1);
        due("load(0) of one link", two.load(0), 0);
        due("load(6) of one link", two.load(6), 0);
        due("load(0) without links", new LabelNet().load(0), 0);
    }

    private static void loadOfTheRoute() {
        of("12", "whose route comes through r");
        LabelNet net = net(0, 1, 1, 1, 2, 1, 0, 2, 2);
        due("load(1), which is on the route there alone", net.load(1), 1);
        net.join(0, 2, 1);
        due("load(1), which is on neither route", net.load(1), 0);
        net.join(0, 2, 3);
        due("load(1), which is on both routes", net.load(1), 2);
        net.setRouter(1, false);
        due("load(1), which is down", net.load(1), 0);
    }

    private static void loadOutsideTheRouters() {
        of("12", "0 when r is not 0 .. 6");
        for (int r : NOT_ROUTERS) {
            for (int centre = 0; centre < ROUTERS; centre++) {
                due(call("load", r), star(centre).load(r), 0);
            }
        }
    }

    // ---- Promise 13

    private static void linkLoad() {
        linkLoadInEitherDirection();
        linkLoadOfNeighboursOnTheRoute();
        linkLoadOfNoLink();
        linkLoadOfWhatDoesNotCount();
    }

    private static void linkLoadInEitherDirection() {
        of("13", "goes along the link between a and b in either direction");
        LabelNet net = net(0, 1, 1, 1, 2, 1, 0, 2, 2);
        int[][] loads = {{0, 1, 3}, {1, 2, 3}, {0, 2, 1}};
        for (int[] load : loads) {
            due(call("linkLoad", load[0], load[1]), net.linkLoad(load[0], load[1]), load[2]);
            due(call("linkLoad", load[1], load[0]), net.linkLoad(load[1], load[0]), load[2]);
        }
        due("linkLoad(2, 3), the greatest", wholeLine().linkLoad(2, 3), 24);
        due("linkLoad(6, 5), at the end", wholeLine().linkLoad(6, 5), 12);
    }

    /** Both routers of the link lie on the route, but the route does not go along the link. */
    private static void linkLoadOfNeighboursOnTheRoute() {
        of("13", "whose route goes along the link");
        LabelNet net = net(0, 1, 1, 1, 2, 1, 0, 2, 9);
        due("linkLoad(0, 2), which no route takes", net.linkLoad(0, 2), 0);
        due("linkLoad(2, 0), which no route takes", net.linkLoad(2, 0), 0);
    }

    private static void linkLoadOfNoLink() {
        of("13", "0 when there is none");
        LabelNet line = wholeLine();
        due("linkLoad(0, 2), whose routers are joined by a way", line.linkLoad(0, 2), 0);
        due("linkLoad(6, 0), whose routers are joined by a way", line.linkLoad(6, 0), 0);
        for (int r = 0; r < ROUTERS; r++) {
            due(call("linkLoad", r, r), line.linkLoad(r, r), 0);
        }
        noneOutside("linkLoad", (net, pair) -> net.linkLoad(pair[0], pair[1]), 0);
    }

    private static void linkLoadOfWhatDoesNotCount() {
        of("13", "0 when there is none that counts");
        for (int which = 0; which < 8; which++) {
            LabelNet net = wholeLine();
            net.setLink(2, 3, (which & 1) != 0);
            net.setRouter(2, (which & 2) != 0);
            net.setRouter(3, (which & 4) != 0);
            due("linkLoad(2, 3), ups " + which, net.linkLoad(2, 3), which == 7 ? 24 : 0);
            due("linkLoad(3, 2), ups " + which, net.linkLoad(3, 2), which == 7 ? 24 : 0);
        }
    }

    // ---- Promise 14

    private static void reachable() {
        reachableOtherThanItself();
        reachableByADistance();
        reachableOutsideTheRouters();
    }

    private static void reachableOtherThanItself() {
        of("14", "other than s: bit d for router d");
        for (int s = 0; s < ROUTERS; s++) {
            due(call("reachable", s) + " without links", new LabelNet().reachable(s), 0);
            due(call("reachable", s) + " of all", wholeLine().reachable(s), 127 - (1 << s));
            for (int d = 0; d < ROUTERS; d++) {
                due(call("reachable", s) + " with a link to " + d, net(s, d, 9).reachable(s), s == d ? 0 : 1 << d);
            }
        }
    }

    private static void reachableByADistance() {
        of("14", "to which there is a distance from s");
        for (int r = 0; r < ROUTERS; r++) {
            LabelNet net = wholeLine();
            net.setRouter(r, false);
            due("reachable(0) without router " + r, net.reachable(0), r == 0 ? 0 : (1 << r) - 2);
            due(call("reachable", r) + " down", net.reachable(r), 0);
        }
    }

    private static void reachableOutsideTheRouters() {
        of("14", "0 when s is not 0 .. 6");
        for (int s : NOT_ROUTERS) {
            due(call("reachable", s), full().reachable(s), 0);
            due(call("reachable", s), wholeLine().reachable(s), 0);
        }
    }

    // ---- Promise 15

    private static void farthest() {
        farthestThatHasADistance();
        farthestFromARouterThatIsDown();
        farthestOutsideTheRouters();
    }

    private static void farthestThatHasADistance() {
        of("15", "The greatest distance from s to a router that has one");
        due("farthest(0), the greatest there is", line(9, 0, 1, 2, 3, 4, 5, 6).farthest(0), 54);
        due("farthest(3), both ways alike", wholeLine().farthest(3), 3);
        for (int s = 0; s < ROUTERS; s++) {
            due(call("farthest", s) + " alone", new LabelNet().farthest(s), 0);
            due(call("farthest", s) + " beside links of others", line(9, (s + 1) % 7, (s + 2) % 7).farthest(s), 0);
            for (int d = 0; d < ROUTERS; d++) {
                due(call("farthest", s) + " with a link to " + d, net(s, d, 7).farthest(s), s == d ? 0 : 7);
            }
        }
    }

    private static void farthestFromARouterThatIsDown() {
        of("15", "NONE when s is down");
        for (int s = 0; s < ROUTERS; s++) {
            LabelNet net = wholeLine();
            net.setRouter(s, false);
            due(call("farthest", s), net.farthest(s), -1);
            LabelNet alone = new LabelNet();
            alone.setRouter(s, false);
            due(call("farthest", s) + " without links", alone.farthest(s), -1);
        }
    }

    private static void farthestOutsideTheRouters() {
        of("15", "NONE when s is not 0 .. 6");
        for (int s : NOT_ROUTERS) {
            due(call("farthest", s), full().farthest(s), -1);
            due(call("farthest", s), wholeLine().farthest(s), -1);
        }
    }

    // ---- Promise 16

    private static void impact() {
        routesDisappear();
        routesAppear();
        routesChange();
        routesChangeAtEqualCost();
        routesChangeByOneRouter();
        impactOfWhatDoesNotCount();
        impactOfNoLink();
        impactChangesNothing();
        impactIsTheLoadOfTheLink();
    }

    private static void impactOfNoLink() {
        of("16", "0 when there is none");
        LabelNet line = wholeLine();
        due("impact(0, 6)", line.impact(0, 6), 0);
        due("impact(2, 0)", line.impact(2, 0), 0);
        for (int r = 0; r < ROUTERS; r++) {
            due(call("impact", r, r), line.impact(r, r), 0);
        }
        line.cut(2, 3);
        due("impact(2, 3) after the cut", line.impact(2, 3), 0);
        noneOutside("impact", (net, pair) -> net.impact(pair[0], pair[1]), 0);
    }

    private static void routesDisappear() {
        of("16", "disappear: a link that is up");
        due("impact(0, 6) of one link", net(6, 0, 9).impact(0, 6), 2);
        for (int r = 1; r < ROUTERS; r++) {
            due(call("impact", r - 1, r), wholeLine().impact(r - 1, r), 2 * r * (7 - r));
            due(call("impact", r, r - 1), wholeLine().impact(r, r - 1), 2 * r * (7 - r));
        }
    }

    private static void routesAppear() {
        of("16", "appear: a link that is down");
        for (int r = 1; r < ROUTERS; r++) {
            LabelNet net = wholeLine();
            net.setLink(r, r - 1, false);
            due(call("impact", r - 1, r), net.impact(r - 1, r), 2 * r * (7 - r));
            due(call("impact", r, r - 1), net.impact(r, r - 1), 2 * r * (7 - r));
        }
    }

    private static void routesChange() {
        of("16", "change: to a dearer route, and back to a cheaper one");
        LabelNet ring = line(1, 0, 1, 2, 3, 4, 5, 6, 0);
        due("impact(0, 6), up", ring.impact(0, 6), 12);
        ring.setLink(0, 6, false);
        due("impact(0, 6), down", ring.impact(0, 6), 12);
        LabelNet dear = wholeLine();
        dear.join(0, 6, 9);
        due("impact(0, 6), up, which no route takes", dear.impact(0, 6), 0);
        dear.setLink(0, 6, false);
        due("impact(0, 6), down, which no route would take", dear.impact(0, 6), 0);
    }

    private static void routesChangeAtEqualCost() {
        of("16", "change: the distance stays and the routers do not");
        // As dear as the line: only the route from 6 to 0 takes it, as 0 is less than 5 and 1 less than 6.
        LabelNet ring = wholeLine();
        ring.join(0, 6, 6);
        due("impact(0, 6), up", ring.impact(0, 6), 1);
        ring.setLink(0, 6, false);
        due("impact(0, 6), down", ring.impact(0, 6), 1);
        // From 0 to 4 the first hop and the number of links stay too.
        LabelNet inside = net(0, 1, 1, 1, 2, 1, 1, 3, 1, 2, 4, 1, 3, 4, 1);
        due("impact(1, 2), up", inside.impact(1, 2), 10);
        inside.setLink(1, 2, false);
        due("impact(1, 2), down", inside.impact(1, 2), 10);
        // From 6 to 1 the routes by 0 and by 2 differ in that router alone.
        LabelNet zero = net(6, 0, 1, 0, 1, 1, 6, 2, 1, 2, 1, 1);
        due("impact(0, 1), up", zero.impact(0, 1), 6);
        zero.setLink(0, 1, false);
        due("impact(0, 1), down", zero.impact(0, 1), 6);
    }

    /** Every order of the routers, and every place of the longest route at which one router comes in. */
    private static void routesChangeByOneRouter() {
        of("16", "change: the longest route, which one router more makes so");
        for (int number = 0; number < 5040; number++) {
            int[] order = order(number);
            for (int at = 1; at < ROUTERS - 1; at++) {
                routesChangeByOneRouter(order, at);
            }
        }
    }

    /** A line of six; the seventh router goes round the link that leads to the one at this place. */
    private static void routesChangeByOneRouter(int[] order, int at) {
        int a = order[at - 1];
        int b = order[at];
        LabelNet net = line(1, order[0], order[1], order[2], order[3], order[4], order[5]);
        net.join(a, order[6], 1);
        net.join(order[6], b, 1);
        int pairs = 2 * at * (6 - at);
        due(call("impact", a, b) + ", up", net.impact(a, b), pairs);
        net.setLink(a, b, false);
        due(call("hops", order[0], order[5]), net.hops(order[0], order[5]), 6);
        due(call("impact", a, b) + ", down", net.impact(a, b), pairs);
    }

    /** One of the 5040 orders of the seven routers. */
    private static int[] order(int number) {
        int[] order = {0, 1, 2, 3, 4, 5, 6};
        int rest = number;
        for (int left = ROUTERS; left > 1; left--) {
            int taken = rest % left;
            rest /= left;
            int last = order[left - 1];
            order[left - 1] = order[taken];
            order[taken] = last;
        }
        return order;
    }

    private static void impactOfWhatDoesNotCount() {
        of("16", "if the link were turned: at a router that is down no route would change");
        for (int which = 0; which < 8; which++) {
            LabelNet net = wholeLine();
            net.setLink(2, 3, (which & 1) != 0);
            net.setRouter(2, (which & 2) != 0);
            net.setRouter(3, (which & 4) != 0);
            due("impact(2, 3), ups " + which, net.impact(2, 3), which >= 6 ? 24 : 0);
        }
    }

    private static void impactChangesNothing() {
        of("16", "Nothing changes.");
        for (int a = 0; a < ROUTERS; a++) {
            for (int b = 0; b < ROUTERS; b++) {
                LabelNet sparse = sparse();
                sparse.impact(a, b);
                due("what differs after " + call("impact", a, b), differences(sparse, sparse()), 0);
                LabelNet full = full();
                full.impact(a, b);
                due("what differs after " + call("impact", a, b), differences(full, full()), 0);
            }
        }
    }

    /**
     * A route that goes along the link cannot stay without it, and one that does not go along it is not touched:
     * so the number is the load of the link while it is up.
     */
    private static void impactIsTheLoadOfTheLink() {
        of("16", "turned from up to down or from down to up");
        LabelNet net = full();
        allRoutersUp(net);
        for (int a = 0; a < ROUTERS; a++) {
            for (int b = 0; b < ROUTERS; b++) {
                net.setLink(a, b, true);
                int load = net.linkLoad(a, b);
                due(call("impact", a, b) + ", up", net.impact(a, b), load);
                net.setLink(a, b, false);
                due(call("impact", a, b) + ", down", net.impact(a, b), load);
                net.setLink(a, b, true);
            }
        }
    }
}
