/** 'Terms' 2, sentence by sentence: the edges. */
public final class Terms2Test extends Checks {
    public static void main(String[] args) {
        atLeastSoManyTicks();
        operandsWaitForLags();
        oneSlotKeepsItsOrder();
        storesWaitForThemselves();
        storesWaitForWhatMayBeRefused();
        sameEdgesChangeNothing();
        operandsThatDoNotStand();
        Due.finish("Terms2Test");
    }

    /** check(), and if an edge does not hold, which one; a, b, ticks, turns. */
    private static void broken(String name, LoopLane x, int... edge) {
        due(name + ", check()", x.check(), edge.length == 0 ? 0 : 1);
        for (int what = 0; what < 4; what++) {
            due(name + ", wrong(" + what + ")", x.wrong(what), edge.length == 0 ? NONE : edge[what]);
        }
    }

    private static void atLeastSoManyTicks() {
        sentence("Terms 2", "EDGES (a, b, TICKS, TURNS): b begins at least so many TICKS behind a of so many TURNS before; of the body, and told ones.");
        for (int turns = 0; turns <= 4; turns++) {
            for (int ticks : new int[] {-50, -1, 0, 1, 50}) {
                LoopLane x = apart(2);
                x.edge(0, 1, ticks, turns);
                x.edge(0, 0, 7, 1);
                due("lay()", x.lay(), 7);
                x.forge(0, 1000);
                x.forge(1, 1000 + ticks - 7 * turns);
                broken("just so many, " + ticks + " and " + turns, x);
                x.forge(1, 1000 + ticks - 7 * turns + 1);
                broken("one more, " + ticks + " and " + turns, x);
                x.forge(1, 1000 + ticks - 7 * turns - 1);
                broken("one less, " + ticks + " and " + turns, x, 0, 1, ticks, turns);
            }
        }
        LoopLane x = puts(1);
        x.reckon(1, 0, 0, 0, 0);
        x.works(1, 1, 1, 1);
        x.edge(1, 0, -3, 0);
        x.lay();
        x.forge(0, 5);
        x.forge(1, 5);
        broken("of the body", x, 0, 1, 1, 0);
        x.forge(1, 9);
        broken("told", x, 1, 0, -3, 0);
        x.forge(1, 8);
        broken("both hold", x);
    }

    private static void operandsWaitForLags() {
        sentence("Terms 2", "The body's: for each operand of b that is the END of a, of d TURNS before: (a, b, LAG of a, d).");
        for (int lag : new int[] {1, 5, 12}) {
            for (int d = 0; d <= 4; d++) {
                for (int which = 0; which < 6; which++) {
                    operandWaits(which, lag, d);
                }
            }
        }
        LoopLane x = puts(2);
        x.pick(0, 1, 0, 3);
        due("each operand has one", x.count(2), 3);
        x.works(2, 9, 0, 1);
        x.works(0, 4, 1, 1);
        x.works(1, 6, 2, 1);
        x.lay();
        due("the lag of a, not of b", x.tick(2, 3), 6);
        x = new LoopLane();
        x.reckon(1, 0, 2, 0, 3);
        x.works(0, 11, 0, 1);
        due("its own: 11 ticks in 2 turns", x.lowest(), 6);
        due("its own: 2", x.count(2), 2);
    }

    /** Act 2 takes act 1, which has a lag, as one of its operands; act 0 is a put for the others. */
    private static void operandWaits(int which, int lag, int d) {
        LoopLane x = apart(2);
        x.works(1, lag, 1, 1);
        switch (which) {
            case 0: x.reckon(1, 1, d, 0, 0); break;
            case 1: x.reckon(3, 0, 0, 1, d); break;
            case 2: x.fetch(0, 1, d); break;
            case 3: x.store(0, 1, d, 0, 0); break;
            case 4: x.store(0, 0, 0, 1, d); break;
            default: x.pick(0, 0, 1, d);
        }
        x.works(2, 1, 2, 1);
        String name = "operand " + which + ", lag " + lag + ", of " + d + " before";
        due(name + ", lay()", x.lay(), 1);
        x.forge(1, 500);
        x.forge(2, 500 + lag - d);
        broken(name, x);
        x.forge(2, 500 + lag - d - 1);
        broken(name, x, 1, 2, lag, d);
    }

    /** Act 0 is a put; acts 1 and 2 fetch (4) or store (5). */
    private static LoopLane pair(int one, int slot, int other, int otherSlot) {
        LoopLane x = puts(1);
        x.works(0, 1, 5, 1);
        access(x, one, slot);
        access(x, other, otherSlot);
        x.works(1, 1, 1, 1);
        x.works(2, 1, 2, 1);
        return x;
    }

    private static void access(LoopLane x, int sort, int slot) {
        if (sort == 4) {
            x.fetch(slot, 0, 0);
        } else {
            x.store(slot, 0, 0, 0, 0);
        }
    }

    private static void oneSlotKeepsItsOrder() {
        sentence("Terms 2", "For each two FETCHES or STORES a < b with one SLOT, one of them a STORE at least: (a, b, 1, 0), (b, a, 1, 1);");
        for (int one = 4; one <= 5; one++) {
            for (int other = 4; other <= 5; other++) {
                LoopLane x = pair(one, 0, other, 0);
                String name = one + " and " + other;
                if (one == 4 && other == 4) {
                    due(name + ", lay()", x.lay(), 1);
                    x.forge(1, 500);
                    broken(name + ", any order", x);
                    continue;
                }
                due(name + ", lay()", x.lay(), 2);
                x.forge(1, 500);
                x.forge(2, 501);
                broken(name + ", one behind", x);
                x.forge(2, 500);
                broken(name + ", at once", x, 1, 2, 1, 0);
                x.forge(2, 502);
                broken(name + ", two behind", x, 2, 1, 1, 1);
            }
        }
        LoopLane x = pair(5, 0, 4, 1);
        due("another slot: only what may be refused", x.lay(), 1);
        x.forge(1, 500);
        x.forge(2, 500);
        broken("another slot, at once", x);
        x.forge(2, 1);
        broken("another slot, far ahead", x);
        due("two fetches of one slot", pair(4, 0, 4, 0).count(2), 2);
        due("two fetches of two", pair(4, 0, 4, 1).count(2), 2);
        // operands 3; the slot's 2; the store's own; what may be refused 2
        due("fetch and store of one slot", pair(4, 0, 5, 0).count(2), 3 + 2 + 1 + 2);
        due("fetch and store of two", pair(4, 0, 5, 1).count(2), 3 + 1 + 2);
        due("store and fetch of one slot", pair(5, 0, 4, 0).count(2), 3 + 2 + 1 + 1);
        due("store and fetch of two", pair(5, 0, 4, 1).count(2), 3 + 1 + 1);
        // operands 4; the slot's 2; their own 2; what may be refused 2 and 1
        due("two stores of one slot", pair(5, 0, 5, 0).count(2), 4 + 2 + 2 + 3);
        due("two stores of two", pair(5, 0, 5, 1).count(2), 4 + 2 + 3);
    }

    private static void storesWaitForThemselves() {
        sentence("Terms 2", "of each STORE a: (a, a, 1, 1).");
        LoopLane x = puts(1);
        x.store(0, 0, 0, 0, 0);
        due("operands 2, and that one", x.count(2), 3);
        x.works(1, 1, 1, 1);
        due("it holds at the least beat", x.lay(), 1);
        due("it holds at the least beat", x.check(), 0);
        x.fetch(1, 0, 0);
        due("a fetch has none", x.count(2), 3 + 1 + 1);
    }

    private static int sortAt(LoopLane x, int sort) {
        switch (sort) {
            case 0: return x.put(1);
            case 4: return x.fetch(1, 0, 0);
            case 5: return x.store(1, 0, 0, 0, 0);
            case 6: return x.pick(0, 0, 0, 0);
            default: return x.reckon(sort, 0, 0, 0, 0);
        }
    }

    private static final int[] OPERANDS = {0, 2, 2, 2, 1, 2, 3};

    private static void storesWaitForWhatMayBeRefused() {
        sentence("Terms 2", "For each STORE b and each other ACT a of SORTS 3, 4, 5: (a, b, 1, 0) if a < b, and (a, b, 1, 1).");
        for (int sort = 0; sort <= 6; sort++) {
            waitsAhead(sort);
            waitsBehind(sort);
        }
    }

    /** Act 1 stands ahead of the store, act 2, which is of another slot. */
    private static void waitsAhead(int sort) {
        LoopLane x = puts(1);
        x.unit(0, 4);
        sortAt(x, sort);
        x.store(0, 0, 0, 0, 0);
        boolean waits = sort >= 3 && sort <= 5;
        String name = "sort " + sort + " ahead of a store";
        // a store there has one of its own, and waits itself for act 2 of the turn before
        int own = OPERANDS[sort] + 3 + (sort == 5 ? 2 : 0);
        due(name + ", count(2)", x.count(2), own + (waits ? 2 : 0));
        due(name + ", lay()", x.lay(), sort == 5 ? 2 : 1);
        x.forge(1, 500);
        x.forge(2, 501);
        broken(name + ", one behind", x);
        x.forge(2, 500);
        if (!waits) {
            x.forge(2, 1);
            broken(name + ", it does not wait", x);
            return;
        }
        broken(name + ", at once", x, 1, 2, 1, 0);
        x.forge(2, 1);
        broken(name + ", far ahead: of two the one with less turns", x, 1, 2, 1, 0);
    }

    /** Act 1 is the store, act 2 stands behind it. */
    private static void waitsBehind(int sort) {
        LoopLane x = puts(1);
        x.unit(0, 4);
        x.store(0, 0, 0, 0, 0);
        sortAt(x, sort);
        x.edge(0, 0, 3, 1);
        boolean waits = sort >= 3 && sort <= 5;
        String name = "sort " + sort + " behind a store";
        int own = OPERANDS[sort] + 3 + (sort == 5 ? 3 : 0);
        due(name + ", count(2)", x.count(2), own + (waits ? 1 : 0));
        due(name + ", lay()", x.lay(), 3);
        x.forge(1, 500);
        x.forge(2, 502);
        broken(name + ", a tick less than a beat behind", x);
        x.forge(2, 503);
        if (waits) {
            broken(name + ", a beat behind", x, 2, 1, 1, 1);
        } else {
            x.forge(2, 3000);
            broken(name + ", it is not waited for", x);
        }
    }

    private static void sameEdgesChangeNothing() {
        sentence("Terms 2", "(The same one may come more than once; that changes nothing.");
        LoopLane once = puts(2);
        LoopLane often = puts(2);
        once.edge(0, 1, 5, 1);
        for (int i = 1; i <= 40; i++) {
            due("told " + i + " times", often.edge(0, 1, 5, 1), i);
        }
        due("as the body has it, twice", often.reckon(1, 0, 0, 0, 0), 2);
        due("as the body has it, once", once.reckon(1, 0, 0, 1, 0), 2);
        due("two of the body", often.count(2), 2);
        due("lay()", often.lay(), once.lay());
        due("trials()", often.trials(), once.trials());
        for (int what = 0; what < 5; what++) {
            due("tick(1, " + what + ")", often.tick(1, what), once.tick(1, what));
        }
        often.forge(0, 500);
        often.forge(2, 501);
        broken("the same one", often, 0, 1, 5, 1);
    }

    private static void operandsThatDoNotStand() {
        sentence("Terms 2", "Operands that do not stand yet have none.)");
        LoopLane x = new LoopLane();
        x.reckon(1, 2, 1, 0, 1);
        due("act 2 does not stand", x.count(2), 1);
        x.fetch(0, 15, 4);
        due("act 15 does not stand", x.count(2), 1);
        x.put(1);
        due("act 2 stands", x.count(2), 2);
        due("undo() of another's operand", x.undo(), NO);
        due("it still stands", x.count(2), 2);
    }
}
