import java.util.ArrayList;
import java.util.EnumSet;
import java.util.List;
import java.util.Set;
import java.util.function.Consumer;
import java.util.function.ToIntFunction;

/** One test for each sentence of the document that names a boundary case; a failure prints the sentence. */
public final class BoundaryTest {
    private static final int MIN = Integer.MIN_VALUE;
    private static final int MAX = Integer.MAX_VALUE;

    /** The blocks that the states below leave unsynced: with both ends, and with gaps. */
    private static final int[] MEMBERS = {0, 3, 6, 9, 12, 15};
    private static final int[] OTHERS = {1, 2, 4, 5, 7, 8, 10, 11, 13, 14};
    /** The first refused one on either side, ints that a mask or a cast would make good, and the extremes. */
    private static final int[] BAD_BLOCKS = {-1, 16, 17, -16, 256, 65536, -65521, MIN, MIN + 15, MAX};
    private static final int[] BAD_COUNTS = {0, -1, 17, 18, -16, 257, 65537, MIN, MIN + 1, MAX};
    private static final int[] BAD_POINTS = {-1, 4, 5, -4, 256, 65539, MIN, MIN + 3, MAX};
    private static final int[] EDGE_VALUES = {0, -1, 1, MIN, MAX};

    private static final int WAYS = 8;

    private static String sentence = "";
    private static int wrong = 0;

    private interface Call extends ToIntFunction<ZonedLogStore> { }

    /** Runs of calls that lead to the edges, with what up, grouped and unsynced answer after them. */
    private enum State {
        NEW(1, 0, 0, x -> { }),
        ONE(1, 0, 1, x -> writeMembers(x, 1)),
        FIVE(1, 0, 5, x -> writeMembers(x, 5)),
        SIX(1, 0, 6, x -> writeMembers(x, 6)),
        SIX_UNCHANGED(1, 0, 6, x -> rewriteMembers(x)),
        SYNCED(1, 0, 0, x -> fillAndSync(x)),
        SYNCED_FIVE(1, 0, 5, x -> { fillAndSync(x); writeMembers(x, 5); }),
        SYNCED_SIX(1, 0, 6, x -> { fillAndSync(x); writeMembers(x, 6); }),
        MOUNTED(1, 0, 0, x -> { fillAndSync(x); writeMembers(x, 6); x.crash(); x.mount(); }),

        GROUP(1, 1, 0, x -> x.begin()),
        GROUP_ONE(1, 1, 1, x -> { x.begin(); writeMembers(x, 1); }),
        GROUP_FIVE(1, 1, 5, x -> { x.begin(); writeMembers(x, 5); }),
        GROUP_SYNCED(1, 1, 0, x -> { fillAndSync(x); x.begin(); }),
        GROUP_SYNCED_FIVE(1, 1, 5, x -> { fillAndSync(x); x.begin(); writeMembers(x, 5); }),
        GROUP_SIX(1, 1, 6, x -> { x.begin(); writeMembers(x, 6); }),
        GROUP_SIX_UNCHANGED(1, 1, 6, x -> { x.begin(); rewriteMembers(x); }),
        GROUP_SYNCED_SIX(1, 1, 6, x -> { fillAndSync(x); x.begin(); writeMembers(x, 6); }),

        DOWN(0, 0, 0, x -> x.crash()),
        DOWN_SYNCED(0, 0, 0, x -> { fillAndSync(x); x.crash(); }),
        DOWN_FROM_SIX(0, 0, 0, x -> { fillAndSync(x); writeMembers(x, 6); x.crash(); }),
        DOWN_FROM_GROUP(0, 0, 0, x -> { fillAndSync(x); x.begin(); writeMembers(x, 6); x.crash(); }),
        DOWN_AT_2(0, 0, 0, x -> { fillAndSync(x); x.begin(); writeMembers(x, 6); x.crashIn(2); }),
        DOWN_AT_3(0, 0, 0, x -> { fillAndSync(x); x.begin(); writeMembers(x, 6); x.crashIn(3); });

        private final int up;
        private final int grouped;
        private final int unsynced;
        private final Consumer<ZonedLogStore> steps;

        State(int up, int grouped, int unsynced, Consumer<ZonedLogStore> steps) {
            this.up = up;
            this.grouped = grouped;
            this.unsynced = unsynced;
            this.steps = steps;
        }

        ZonedLogStore make() {
            ZonedLogStore x = new ZonedLogStore();
            steps.accept(x);
            return x;
        }
    }

    private static final Set<State> ALONE = EnumSet.range(State.NEW, State.MOUNTED);
    private static final Set<State> IN_GROUP = EnumSet.range(State.GROUP, State.GROUP_SYNCED_SIX);
    private static final Set<State> IN_FULL_GROUP = EnumSet.range(State.GROUP_SIX, State.GROUP_SYNCED_SIX);
    private static final Set<State> UP = EnumSet.range(State.NEW, State.GROUP_SYNCED_SIX);
    private static final Set<State> DOWN = EnumSet.range(State.DOWN, State.DOWN_AT_3);
    private static final Set<State> ALL = EnumSet.allOf(State.class);

    private static void writeMembers(ZonedLogStore x, int count) {
        for (int i = 0; i < count; i++) {
            x.write(MEMBERS[i], 10 + i);
        }
    }

    private static void rewriteMembers(ZonedLogStore x) {
        for (int b : MEMBERS) {
            x.write(b, x.read(b));
        }
    }

    private static void fillAndSync(ZonedLogStore x) {
        x.fill(0, 16, 100, 1);
        x.sync();
    }

    // ---- what is compared

    private static void due(String what, Object got, Object want) {
        if (!got.equals(want)) {
            wrong++;
            System.out.println("[" + sentence + "] " + what + " answered " + got + ", due is " + want);
        }
    }

    private static List<Integer> blocks(ZonedLogStore x) {
        List<Integer> held = new ArrayList<>();
        for (int b = 0; b < 16; b++) {
            held.add(x.read(b));
        }
        return held;
    }

    /** The durable state, seen by losing power and coming up again. */
    private static List<Integer> durable(ZonedLogStore x) {
        x.crash();
        x.mount();
        return blocks(x);
    }

    private static List<Integer> sixteen(int value) {
        List<Integer> held = new ArrayList<>();
        for (int b = 0; b < 16; b++) {
            held.add(value);
        }
        return held;
    }

    /** What every question answers. */
    private static List<Integer> answers(ZonedLogStore x) {
        List<Integer> all = blocks(x);
        all.add(x.read(-1));
        all.add(x.read(16));
        all.add(x.up());
        all.add(x.unsynced());
        all.add(x.grouped());
        all.add(x.pending());
        all.add(x.sum());
        all.add(x.check());
        return all;
    }

    /** What is answered along one of several ways to go on, which show what the questions alone do not. */
    private static List<Integer> future(ZonedLogStore x, int way) {
        List<Integer> seen = new ArrayList<>();
        switch (way) {
            case 0: seen.add(x.crash()); break;
            case 1: seen.add(x.crashIn(2)); break;
            case 2: seen.add(x.crashIn(3)); break;
            case 3: seen.add(x.sync()); break;
            case 4: seen.add(x.commit()); break;
            case 5: seen.add(x.abort()); break;
            default:
                for (int i = 0; i < 16; i++) {
                    int b = way == 6 ? i : 15 - i;
                    seen.add(x.write(b, 1000 + b));
                    seen.add(x.unsynced());
                    seen.add(x.pending());
                }
        }
        seen.addAll(answers(x));
        seen.add(x.crash());
        seen.add(x.mount());
        seen.addAll(answers(x));
        return seen;
    }

    /** The call answers what is due, and afterwards nothing tells the object from one that did not get it. */
    private static void changesNothing(Set<State> states, String what, Call call, int want) {
        for (State s : states) {
            ZonedLogStore x = s.make();
            List<Integer> before = answers(x);
            due(s + ": " + what, call.applyAsInt(x), want);
            due(s + ": every question after " + what, answers(x), before);
            for (int way = 0; way < WAYS; way++) {
                ZonedLogStore called = s.make();
                call.applyAsInt(called);
                due(s + ": way " + way + " after " + what, future(called, way), future(s.make(), way));
            }
        }
    }

    /** Two runs of calls after which nothing tells the objects from each other. */
    private static void same(State s, String what, Consumer<ZonedLogStore> one, Consumer<ZonedLogStore> other) {
        for (int way = 0; way < WAYS; way++) {
            ZonedLogStore x = s.make();
            ZonedLogStore y = s.make();
            one.accept(x);
            other.accept(y);
            due(s + ": every question after " + what, answers(x), answers(y));
            due(s + ": way " + way + " after " + what, future(x, way), future(y, way));
        }
    }

    /** With 0 .. 6 blocks unsynced, in a group or not, the call answers how many they were, and none is then. */
    private static void answersHowMany(boolean group, String what, Call call) {
        for (int count = 0; count <= 6; count++) {
            ZonedLogStore x = new ZonedLogStore();
            if (group) {
                x.begin();
            }
            writeMembers(x, count);
            due(what + " with " + count + " unsynced", call.applyAsInt(x), count);
            due("unsynced after " + what + " with " + count, x.unsynced(), 0);

            ZonedLogStore unchanged = new ZonedLogStore();
            if (group) {
                unchanged.begin();
            }
            for (int i = 0; i < count; i++) {
                unchanged.write(MEMBERS[i], 0);
                unchanged.write(MEMBERS[i], 0);
            }
            due(what + " with " + count + " written and the same", call.applyAsInt(unchanged), count);
        }
    }

    // ---- What it is, Terms and promise 1

    private static void theStatesAreWhatTheyAreTakenFor() {
        for (State s : ALL) {
            ZonedLogStore x = s.make();
            due(s + ": up", x.up(), s.up);
            due(s + ": grouped", x.grouped(), s.grouped);
            due(s + ": unsynced", x.unsynced(), s.unsynced);
        }
    }

    private static void theLastOf512Calls() {
        ZonedLogStore x = new ZonedLogStore();
        for (int n = 1; n <= 509; n++) {
            due("call " + n, x.write(n % 16, n), 0);
        }
        due("call 510", x.crashIn(3), 0);
        due("call 511", x.mount(), 0);
        due("call 512", x.read(509 % 16), 509);
        ZonedLogStore groups = new ZonedLogStore();
        for (int n = 1; n <= 510; n += 3) {
            due("call " + n, groups.begin(), 0);
            due("call " + (n + 1), groups.write(n % 16, n), 0);
            due("call " + (n + 2), groups.commit(), 1);
        }
        due("call 511", groups.pending(), 0);
        due("call 512", groups.read(508 % 16), 508);
    }

    private static void goodBlocks() {
        for (int b = 0; b < 16; b++) {
            ZonedLogStore x = new ZonedLogStore();
            due("write(" + b + ", 7)", x.write(b, 7), 0);
            List<Integer> want = sixteen(0);
            want.set(b, 7);
            due("blocks after write(" + b + ", 7)", blocks(x), want);
        }
        for (int bad : BAD_BLOCKS) {
            due("read(" + bad + ")", State.SYNCED.make().read(bad), 0);
            due("write(" + bad + ", 7)", State.SYNCED.make().write(bad, 7), -2);
        }
    }

    private static void everyBlockHoldsAnIntZeroAtFirst() {
        due("blocks of a new one", blocks(new ZonedLogStore()), sixteen(0));
        due("durable blocks of a new one", durable(new ZonedLogStore()), sixteen(0));
        for (int value : EDGE_VALUES) {
            ZonedLogStore x = new ZonedLogStore();
            for (int b = 0; b < 16; b++) {
                x.write(b, value);
            }
            due("blocks holding " + value, blocks(x), sixteen(value));
            x.sync();
            due("durable blocks holding " + value, durable(x), sixteen(value));
        }
    }

    private static void unsyncedAlsoIfNothingChanged() {
        for (State s : EnumSet.of(State.NEW, State.SYNCED, State.MOUNTED, State.GROUP, State.GROUP_SYNCED)) {
            ZonedLogStore x = s.make();
            for (int i = 0; i < 6; i++) {
                int b = MEMBERS[i];
                due(s + ": write the same to " + b, x.write(b, x.read(b)), 0);
                due(s + ": unsynced after it", x.unsynced(), i + 1);
                due(s + ": write the same again to " + b, x.write(b, x.read(b)), 0);
                due(s + ": unsynced after that", x.unsynced(), i + 1);
                due(s + ": pending after that", x.pending(), 0);
            }
        }
        ZonedLogStore back = new ZonedLogStore();
        back.write(15, 1);
        back.write(15, 0);
        due("unsynced after a block got its durable value back", back.unsynced(), 1);
        ZonedLogStore filled = State.SYNCED.make();
        filled.fill(0, 6, 100, 1);
        due("unsynced after a fill that changed nothing", filled.unsynced(), 6);
    }

    private static void atMostSixUnsyncedNoneAtFirst() {
        ZonedLogStore x = new ZonedLogStore();
        due("unsynced of a new one", x.unsynced(), 0);
        for (int n = 0; n < 48; n++) {
            x.write(n % 16, n);
            due("unsynced after " + (n + 1) + " writes", x.unsynced(), n % 6 + 1);
        }
        for (int count = 1; count <= 16; count++) {
            ZonedLogStore filled = new ZonedLogStore();
            filled.fill(0, count, 1, 1);
            due("unsynced after a fill of " + count, filled.unsynced(), (count - 1) % 6 + 1);
        }
        ZonedLogStore group = State.GROUP.make();
        for (int b = 0; b < 16; b++) {
            group.write(b, 1);
            due("unsynced in a group after a write to " + b, group.unsynced(), Math.min(b + 1, 6));
        }
    }

    private static void dueSynced(State s, String what, Call call, List<Integer> want) {
        ZonedLogStore x = s.make();
        call.applyAsInt(x);
        due(s + ": unsynced after " + what, x.unsynced(), 0);
        due(s + ": pending after " + what, x.pending(), 0);
        due(s + ": blocks after " + what, blocks(x), want);
        due(s + ": durable blocks after " + what, durable(x), want);
    }

    private static void syncingMakesDurableTheSame() {
        for (State s : ALONE) {
            dueSynced(s, "sync", ZonedLogStore::sync, blocks(s.make()));
            dueSynced(s, "begin", ZonedLogStore::begin, blocks(s.make()));
        }
        for (State s : IN_GROUP) {
            dueSynced(s, "commit", ZonedLogStore::commit, blocks(s.make()));
        }
    }

    private static void whileDownNothingIsReadOrWritten() {
        due("up of a new one", new ZonedLogStore().up(), 1);
        for (State s : DOWN) {
            due(s + ": blocks", blocks(s.make()), sixteen(0));
            for (int b = 0; b < 16; b++) {
                int block = b;
                changesNothing(EnumSet.of(s), "write(" + b + ", 7)", x -> x.write(block, 7), -1);
            }
            changesNothing(EnumSet.of(s), "fill(0, 16, 7, 0)", x -> x.fill(0, 16, 7, 0), -1);
        }
    }

    private static void writtenInAGroupIsCurrentAtOnce() {
        due("grouped of a new one", new ZonedLogStore().grouped(), 0);
        for (State s : EnumSet.of(State.GROUP, State.GROUP_SYNCED)) {
            ZonedLogStore x = s.make();
            List<Integer> want = blocks(x);
            for (int b : MEMBERS) {
                x.write(b, MIN + b);
                want.set(b, MIN + b);
                due(s + ": blocks after a write to " + b, blocks(x), want);
            }
        }
    }

    private static void noQuestionChangesAnything() {
        for (State s : ALL) {
            same(s, "every question twice", x -> { answers(x); answers(x); }, x -> { });
        }
        for (int bad : BAD_BLOCKS) {
            changesNothing(ALL, "read(" + bad + ")", x -> x.read(bad), 0);
        }
    }

    private static void aRefusedCallChangesNothing() {
        changesNothing(DOWN, "write(0, 7)", x -> x.write(0, 7), -1);
        changesNothing(DOWN, "fill(0, 16, 7, 1)", x -> x.fill(0, 16, 7, 1), -1);
        changesNothing(DOWN, "sync()", ZonedLogStore::sync, -1);
        changesNothing(DOWN, "begin()", ZonedLogStore::begin, -1);
        changesNothing(DOWN, "commit()", ZonedLogStore::commit, -1);
        changesNothing(DOWN, "abort()", ZonedLogStore::abort, -1);
        changesNothing(DOWN, "crash()", ZonedLogStore::crash, -1);
        changesNothing(DOWN, "crashIn(3)", x -> x.crashIn(3), -1);
        changesNothing(DOWN, "pending()", ZonedLogStore::pending, -1);
        changesNothing(DOWN, "sum()", ZonedLogStore::sum, 0);
        changesNothing(DOWN, "read(0)", x -> x.read(0), 0);
        changesNothing(DOWN, "clean()", ZonedLogStore::clean, -1);
        changesNothing(DOWN, "check()", ZonedLogStore::check, -1);
        changesNothing(UP, "mount()", ZonedLogStore::mount, -1);
        changesNothing(UP, "write(16, 7)", x -> x.write(16, 7), -2);
        changesNothing(UP, "fill(1, 16, 7, 1)", x -> x.fill(1, 16, 7, 1), -2);
        changesNothing(UP, "crashIn(4)", x -> x.crashIn(4), -2);
        changesNothing(ALONE, "commit()", ZonedLogStore::commit, -2);
        changesNothing(ALONE, "abort()", ZonedLogStore::abort, -2);
        changesNothing(IN_GROUP, "fill(0, 16, 7, 1)", x -> x.fill(0, 16, 7, 1), -3);
        changesNothing(IN_GROUP, "sync()", ZonedLogStore::sync, -2);
        changesNothing(IN_GROUP, "begin()", ZonedLogStore::begin, -2);
        changesNothing(IN_FULL_GROUP, "write(14, 7)", x -> x.write(14, 7), -3);
    }

    private static void theTestsAreMadeInTheOrderNamed() {
        for (int bad : BAD_BLOCKS) {
            changesNothing(DOWN, "write(" + bad + ", 7)", x -> x.write(bad, 7), -1);
            changesNothing(IN_FULL_GROUP, "write(" + bad + ", 7)", x -> x.write(bad, 7), -2);
        }
        for (int bad : BAD_COUNTS) {
            changesNothing(DOWN, "fill(0, " + bad + ", 7, 1)", x -> x.fill(0, bad, 7, 1), -1);
            changesNothing(IN_GROUP, "fill(0, " + bad + ", 7, 1)", x -> x.fill(0, bad, 7, 1), -2);
        }
        for (int bad : new int[] {-1, 16, MIN, MAX}) {
            changesNothing(DOWN, "fill(" + bad + ", 1, 7, 1)", x -> x.fill(bad, 1, 7, 1), -1);
            changesNothing(IN_GROUP, "fill(" + bad + ", 1, 7, 1)", x -> x.fill(bad, 1, 7, 1), -2);
        }
        for (int bad : BAD_POINTS) {
            changesNothing(DOWN, "crashIn(" + bad + ")", x -> x.crashIn(bad), -1);
        }
        // While down no group is open, so these two always have both of their refusals there.
        changesNothing(DOWN, "commit()", ZonedLogStore::commit, -1);
        changesNothing(DOWN, "abort()", ZonedLogStore::abort, -1);
    }

    private static void aNewObject() {
        ZonedLogStore used = State.GROUP_SYNCED_SIX.make();
        ZonedLogStore x = new ZonedLogStore();
        List<Integer> want = sixteen(0);
        want.addAll(List.of(0, 0, 1, 0, 0, 0, 0, 0));
        due("every question of a new one beside a used one", answers(x), want);
        due("clean() of a new one", x.clean(), 0);
        due("sync() of a new one", x.sync(), 0);
        due("mount() of a new one", x.mount(), -1);
        due("commit() of a new one", x.commit(), -2);
        due("abort() of a new one", x.abort(), -2);
        due("unsynced of the used one", used.unsynced(), 6);
    }

    // ---- Promises 2 and 3

    private static void upOrDown() {
        for (State s : UP) {
            due(s + ": up", s.make().up(), 1);
        }
        for (State s : DOWN) {
            due(s + ": up", s.make().up(), 0);
        }
    }

    private static void readWhileDown() {
        for (int b = 0; b < 16; b++) {
            int block = b;
            changesNothing(DOWN, "read(" + b + ")", x -> x.read(block), 0);
        }
        for (int bad : BAD_BLOCKS) {
            changesNothing(DOWN, "read(" + bad + ")", x -> x.read(bad), 0);
        }
    }

    private static void readABlockThatIsNotGood() {
        ZonedLogStore x = State.SYNCED.make();
        due("read(0)", x.read(0), 100);
        due("read(15)", x.read(15), 115);
        for (int bad : BAD_BLOCKS) {
            changesNothing(UP, "read(" + bad + ")", y -> y.read(bad), 0);
        }
    }

    // ---- Promise 4

    private static void writeWhileDown() {
        for (int b : new int[] {0, 1, 14, 15}) {
            for (int value : EDGE_VALUES) {
                changesNothing(DOWN, "write(" + b + ", " + value + ")", x -> x.write(b, value), -1);
            }
        }
        ZonedLogStore x = State.DOWN_SYNCED.make();
        x.mount();
        due("write(0, 7) once it is up", x.write(0, 7), 0);
    }

    private static void writeABlockThatIsNotGood() {
        for (int bad : BAD_BLOCKS) {
            for (int value : EDGE_VALUES) {
                changesNothing(UP, "write(" + bad + ", " + value + ")", x -> x.write(bad, value), -2);
            }
        }
        for (State s : EnumSet.of(State.NEW, State.SYNCED, State.GROUP)) {
            due(s + ": write(0, 7)", s.make().write(0, 7), 0);
            due(s + ": write(15, 7)", s.make().write(15, 7), 0);
        }
    }

    private static void writeASeventhInAGroup() {
        for (int b : OTHERS) {
            for (int value : new int[] {0, 7, 100 + b, MIN, MAX}) {
                changesNothing(IN_FULL_GROUP, "write(" + b + ", " + value + ")", x -> x.write(b, value), -3);
            }
            for (State s : EnumSet.of(State.GROUP_FIVE, State.GROUP_SYNCED_FIVE)) {
                ZonedLogStore sixth = s.make();
                due(s + ": a sixth, " + b, sixth.write(b, 7), 0);
                due(s + ": read the sixth", sixth.read(b), 7);
                due(s + ": unsynced with the sixth", sixth.unsynced(), 6);
                due(s + ": a seventh, 15", sixth.write(15, 7), -3);
            }
            for (State s : EnumSet.of(State.SIX, State.SIX_UNCHANGED, State.SYNCED_SIX)) {
                due(s + ": a seventh, " + b, s.make().write(b, 7), 0);
            }
        }
        for (State s : IN_FULL_GROUP) {
            for (int b : MEMBERS) {
                ZonedLogStore among = s.make();
                List<Integer> want = blocks(among);
                want.set(b, 7);
                due(s + ": one among them, " + b, among.write(b, 7), 0);
                due(s + ": blocks then", blocks(among), want);
                due(s + ": unsynced then", among.unsynced(), 6);
                due(s + ": grouped then", among.grouped(), 1);
            }
        }
    }

    private static void writeASeventhSyncsFirst() {
        for (State s : EnumSet.of(State.SIX, State.SIX_UNCHANGED, State.SYNCED_SIX)) {
            for (int b : OTHERS) {
                same(s, "write(" + b + ", 7)", x -> x.write(b, 7), x -> { x.sync(); x.write(b, 7); });
                ZonedLogStore x = s.make();
                List<Integer> before = blocks(x);
                x.write(b, 7);
                due(s + ": unsynced after a seventh, " + b, x.unsynced(), 1);
                due(s + ": pending after a seventh, " + b, x.pending(), 1);
                due(s + ": durable blocks after a seventh, " + b, durable(x), before);
            }
            for (int b : MEMBERS) {
                ZonedLogStore x = s.make();
                x.write(b, 7);
                due(s + ": unsynced after one among them, " + b, x.unsynced(), 6);
                due(s + ": durable blocks after one among them, " + b, durable(x), durable(s.make()));
            }
        }
        for (State s : EnumSet.of(State.FIVE, State.SYNCED_FIVE)) {
            for (int b : OTHERS) {
                ZonedLogStore x = s.make();
                x.write(b, 7);
                due(s + ": unsynced after a sixth, " + b, x.unsynced(), 6);
                due(s + ": durable blocks after a sixth, " + b, durable(x), durable(s.make()));
            }
        }
    }

    // ---- Promise 5

    private static void fillWhileDown() {
        for (int[] good : new int[][] {{0, 1}, {0, 16}, {15, 1}, {8, 8}}) {
            for (int value : EDGE_VALUES) {
                String what = "fill(" + good[0] + ", " + good[1] + ", " + value + ", 1)";
                changesNothing(DOWN, what, x -> x.fill(good[0], good[1], value, 1), -1);
            }
        }
    }

    private static void fillOfABadCount() {
        for (int bad : BAD_COUNTS) {
            for (int first : new int[] {0, 1, 15, 16, -1, MIN, MAX}) {
                changesNothing(UP, "fill(" + first + ", " + bad + ", 7, 1)", x -> x.fill(first, bad, 7, 1), -2);
            }
        }
        for (int count = 1; count <= 16; count++) {
            ZonedLogStore x = new ZonedLogStore();
            List<Integer> want = sixteen(0);
            for (int b = 0; b < count; b++) {
                want.set(b, 7);
            }
            due("fill(0, " + count + ", 7, 0)", x.fill(0, count, 7, 0), 0);
            due("blocks after fill(0, " + count + ", 7, 0)", blocks(x), want);
        }
    }

    private static void fillFromBelowZero() {
        for (int first : new int[] {-1, -2, -15, -16, -17, MIN, MIN + 1, MIN + 16}) {
            for (int count : new int[] {1, 2, 15, 16}) {
                changesNothing(UP, "fill(" + first + ", " + count + ", 7, 1)", x -> x.fill(first, count, 7, 1), -2);
            }
        }
        due("fill(0, 1, 7, 1)", new ZonedLogStore().fill(0, 1, 7, 1), 0);
        due("fill(0, 16, 7, 1)", new ZonedLogStore().fill(0, 16, 7, 1), 0);
    }

    private static void fillBeyondTheLastBlock() {
        for (int n = 1; n <= 16; n++) {
            int count = n;
            int last = 16 - count;
            ZonedLogStore x = new ZonedLogStore();
            List<Integer> want = sixteen(0);
            for (int b = last; b < 16; b++) {
                want.set(b, 7);
            }
            due("fill(" + last + ", " + count + ", 7, 0)", x.fill(last, count, 7, 0), 0);
            due("blocks after fill(" + last + ", " + count + ", 7, 0)", blocks(x), want);
            // At the greatest ints first + count wraps and is small again.
            for (int first : new int[] {last + 1, 16, 17, MAX - count, MAX - count + 1, MAX}) {
                if (first + (long) count > 16) {
                    changesNothing(UP, "fill(" + first + ", " + count + ", 7, 1)", y -> y.fill(first, count, 7, 1), -2);
                }
            }
        }
    }

    private static void fillInAGroup() {
        for (int count = 1; count <= 16; count++) {
            for (int first = 0; first <= 16 - count; first++) {
                int f = first;
                int c = count;
                changesNothing(IN_GROUP, "fill(" + f + ", " + c + ", 7, 1)", x -> x.fill(f, c, 7, 1), -3);
            }
        }
        ZonedLogStore x = State.GROUP_SYNCED_SIX.make();
        x.commit();
        due("fill(0, 16, 7, 1) once the group is closed", x.fill(0, 16, 7, 1), 0);
    }

    private static void fillIsLikeWritesOneAfterTheOther() {
        for (State s : ALONE) {
            for (int count = 1; count <= 16; count++) {
                for (int first = 0; first <= 16 - count; first++) {
                    int f = first;
                    int c = count;
                    same(s, "fill(" + f + ", " + c + ", 7, 3)", x -> x.fill(f, c, 7, 3), x -> {
                        for (int i = 0; i < c; i++) {
                            x.write(f + i, 7 + 3 * i);
                        }
                    });
                }
            }
        }
        ZonedLogStore x = new ZonedLogStore();
        x.fill(0, 13, 1, 1);
        due("unsynced after a fill of 13", x.unsynced(), 1);
        due("durable blocks after a fill of 13", durable(x),
            List.of(1, 2, 3, 4, 5, 6, 7, 8, 9, 10, 11, 12, 0, 0, 0, 0));
    }

    private static void fillWrapsLikeInts() {
        ZonedLogStore up = new ZonedLogStore();
        up.fill(14, 2, MAX, 1);
        due("the greatest int and 1 more", up.read(15), MIN);
        ZonedLogStore down = new ZonedLogStore();
        down.fill(14, 2, MIN, -1);
        due("the smallest int and 1 less", down.read(15), MAX);
        for (int value : EDGE_VALUES) {
            for (int step : new int[] {0, 1, -1, 1 << 30, MIN, MIN + 1, MAX, MAX - 1}) {
                ZonedLogStore x = new ZonedLogStore();
                List<Integer> want = sixteen(0);
                for (int i = 0; i < 16; i++) {
                    want.set(i, (int) (value + (long) i * step));
                }
                due("fill(0, 16, " + value + ", " + step + ")", x.fill(0, 16, value, step), 0);
                due("blocks after fill(0, 16, " + value + ", " + step + ")", blocks(x), want);
            }
        }
    }

    // ---- Promises 6 to 9

    private static void syncWhileDown() {
        changesNothing(DOWN, "sync()", ZonedLogStore::sync, -1);
    }

    private static void syncInAGroup() {
        changesNothing(IN_GROUP, "sync()", ZonedLogStore::sync, -2);
    }

    private static void syncAnswersHowMany() {
        answersHowMany(false, "sync()", ZonedLogStore::sync);
        ZonedLogStore x = State.SIX.make();
        x.write(1, 1);
        due("sync() after a seventh", x.sync(), 1);
        due("sync() again", x.sync(), 0);
    }

    private static void beginWhileDown() {
        changesNothing(DOWN, "begin()", ZonedLogStore::begin, -1);
    }

    private static void beginInAGroup() {
        changesNothing(IN_GROUP, "begin()", ZonedLogStore::begin, -2);
    }

    private static void beginSyncsFirst() {
        for (State s : ALONE) {
            ZonedLogStore x = s.make();
            List<Integer> before = blocks(x);
            due(s + ": begin()", x.begin(), 0);
            due(s + ": grouped after begin()", x.grouped(), 1);
            due(s + ": unsynced after begin()", x.unsynced(), 0);
            due(s + ": pending after begin()", x.pending(), 0);
            for (int i = 0; i < OTHERS.length; i++) {
                due(s + ": write(" + OTHERS[i] + ", 7) in the group", x.write(OTHERS[i], 7), i < 6 ? 0 : -3);
            }
            due(s + ": abort()", x.abort(), 6);
            due(s + ": blocks after abort()", blocks(x), before);
            ZonedLogStore lost = s.make();
            lost.begin();
            due(s + ": durable blocks after begin()", durable(lost), before);
        }
    }

    private static void commitWhileDown() {
        changesNothing(DOWN, "commit()", ZonedLogStore::commit, -1);
    }

    private static void commitWithoutAGroup() {
        changesNothing(ALONE, "commit()", ZonedLogStore::commit, -2);
        ZonedLogStore x = State.GROUP.make();
        due("commit()", x.commit(), 0);
        due("commit() again", x.commit(), -2);
    }

    private static void commitAnswersHowMany() {
        answersHowMany(true, "commit()", ZonedLogStore::commit);
        for (State s : IN_GROUP) {
            ZonedLogStore x = s.make();
            List<Integer> before = blocks(x);
            due(s + ": commit()", x.commit(), s.unsynced);
            due(s + ": grouped after commit()", x.grouped(), 0);
            due(s + ": durable blocks after commit()", durable(x), before);
        }
    }

    private static void abortWhileDown() {
        changesNothing(DOWN, "abort()", ZonedLogStore::abort, -1);
    }

    private static void abortWithoutAGroup() {
        changesNothing(ALONE, "abort()", ZonedLogStore::abort, -2);
        ZonedLogStore x = State.GROUP.make();
        due("abort()", x.abort(), 0);
        due("abort() again", x.abort(), -2);
    }

    private static void abortAnswersHowMany() {
        answersHowMany(true, "abort()", ZonedLogStore::abort);
        for (State s : IN_GROUP) {
            List<Integer> kept = durable(s.make());
            ZonedLogStore x = s.make();
            due(s + ": abort()", x.abort(), s.unsynced);
            due(s + ": grouped after abort()", x.grouped(), 0);
            due(s + ": unsynced after abort()", x.unsynced(), 0);
            due(s + ": pending after abort()", x.pending(), 0);
            due(s + ": blocks after abort()", blocks(x), kept);
            // Blocks of the aborted group count as unsynced only once they are written again.
            for (int i = 0; i < 6; i++) {
                x.write(OTHERS[i], 7);
                due(s + ": unsynced after " + (i + 1) + " writes", x.unsynced(), i + 1);
            }
            x.write(MEMBERS[0], 7);
            due(s + ": unsynced after a seventh", x.unsynced(), 1);
        }
    }

    // ---- Promises 10 to 12

    private static void crashWhileDown() {
        changesNothing(DOWN, "crash()", ZonedLogStore::crash, -1);
    }

    private static void crashAnswersHowMany() {
        answersHowMany(false, "crash()", ZonedLogStore::crash);
        answersHowMany(true, "crash() in a group", ZonedLogStore::crash);
        dueAfterPowerIsLost(State.NEW, "crash()", ZonedLogStore::crash, 0, sixteen(0));
        dueAfterPowerIsLost(State.SIX, "crash()", ZonedLogStore::crash, 6, sixteen(0));
        dueAfterPowerIsLost(State.GROUP, "crash()", ZonedLogStore::crash, 0, sixteen(0));
        dueAfterPowerIsLost(State.GROUP_SIX, "crash()", ZonedLogStore::crash, 6, sixteen(0));
        for (State s : EnumSet.of(State.SYNCED_SIX, State.GROUP_SYNCED_SIX)) {
            dueAfterPowerIsLost(s, "crash()", ZonedLogStore::crash, 6, blocks(State.SYNCED.make()));
        }
    }

    private static void dueAfterPowerIsLost(State s, String what, Call call, int want, List<Integer> kept) {
        ZonedLogStore x = s.make();
        due(s + ": " + what, call.applyAsInt(x), want);
        due(s + ": up after " + what, x.up(), 0);
        due(s + ": grouped after " + what, x.grouped(), 0);
        due(s + ": unsynced after " + what, x.unsynced(), 0);
        due(s + ": mount() after " + what, x.mount(), 0);
        due(s + ": grouped when mounted after " + what, x.grouped(), 0);
        due(s + ": unsynced when mounted after " + what, x.unsynced(), 0);
        due(s + ": pending when mounted after " + what, x.pending(), 0);
        due(s + ": blocks when mounted after " + what, blocks(x), kept);
        due(s + ": durable blocks after " + what, durable(x), kept);
    }

    private static void crashInWhileDown() {
        for (int point = 0; point <= 3; point++) {
            int p = point;
            changesNothing(DOWN, "crashIn(" + p + ")", x -> x.crashIn(p), -1);
        }
    }

    private static void crashInAtABadPoint() {
        for (int bad : BAD_POINTS) {
            changesNothing(UP, "crashIn(" + bad + ")", x -> x.crashIn(bad), -2);
        }
        for (State s : UP) {
            due(s + ": crashIn(0)", s.make().crashIn(0), 0);
            due(s + ": crashIn(3)", s.make().crashIn(3), 0);
        }
    }

    private static void crashInKeepsTheDurableStateBeforePoint3() {
        for (State s : UP) {
            for (int point = 0; point <= 2; point++) {
                int p = point;
                dueAfterPowerIsLost(s, "crashIn(" + p + ")", x -> x.crashIn(p), 0, durable(s.make()));
            }
        }
    }

    private static void crashInMakesTheCurrentStateDurableAtPoint3() {
        for (State s : UP) {
            dueAfterPowerIsLost(s, "crashIn(3)", x -> x.crashIn(3), 0, blocks(s.make()));
        }
    }

    private static void mountWhileUp() {
        changesNothing(UP, "mount()", ZonedLogStore::mount, -1);
    }

    private static void mountOtherwise() {
        for (State s : DOWN) {
            ZonedLogStore x = s.make();
            due(s + ": mount()", x.mount(), 0);
            due(s + ": up after mount()", x.up(), 1);
            due(s + ": mount() again", x.mount(), -1);
        }
    }

    // ---- Promises 13 to 18

    private static void unsyncedAlsoWhileDown() {
        for (State s : ALL) {
            changesNothing(EnumSet.of(s), "unsynced()", ZonedLogStore::unsynced, s.unsynced);
        }
        for (State s : DOWN) {
            ZonedLogStore x = s.make();
            x.write(0, 7);
            due(s + ": unsynced() after a refused write", x.unsynced(), 0);
        }
    }

    private static void groupedAlsoWhileDown() {
        for (State s : ALL) {
            changesNothing(EnumSet.of(s), "grouped()", ZonedLogStore::grouped, s.grouped);
        }
        for (State s : DOWN) {
            ZonedLogStore x = s.make();
            x.begin();
            due(s + ": grouped() after a refused begin", x.grouped(), 0);
        }
    }

    private static void pendingWhileDown() {
        changesNothing(DOWN, "pending()", ZonedLogStore::pending, -1);
    }

    private static void pendingFromNoneToSix() {
        for (State s : EnumSet.of(State.NEW, State.SYNCED, State.MOUNTED, State.GROUP, State.GROUP_SYNCED)) {
            ZonedLogStore x = s.make();
            due(s + ": pending()", x.pending(), 0);
            for (int i = 0; i < 6; i++) {
                x.write(MEMBERS[i], x.read(MEMBERS[i]));
                due(s + ": pending() after the same to " + MEMBERS[i], x.pending(), i);
                x.write(MEMBERS[i], MIN);
                due(s + ": pending() after another to " + MEMBERS[i], x.pending(), i + 1);
            }
        }
        for (int b = 0; b < 16; b++) {
            ZonedLogStore x = new ZonedLogStore();
            x.write(b, 1);
            due("pending() after write(" + b + ", 1)", x.pending(), 1);
            x.write(b, 0);
            due("pending() after write(" + b + ", 0)", x.pending(), 0);
        }
    }

    private static void sumWrapsLikeAnInt() {
        for (int value : new int[] {MIN, MIN + 1, MAX, MAX - 1, 1 << 28, 1 << 27}) {
            ZonedLogStore x = new ZonedLogStore();
            long exact = 0;
            for (int b = 0; b < 16; b++) {
                x.write(b, value);
                exact += value;
                due("sum() of " + (b + 1) + " times " + value, x.sum(), (int) exact);
            }
        }
        ZonedLogStore x = new ZonedLogStore();
        x.write(0, MAX);
        due("sum() of the greatest int", x.sum(), MAX);
        x.write(15, 1);
        due("sum() of the greatest int and 1", x.sum(), MIN);
        x.write(15, MIN);
        due("sum() of the greatest and the smallest int", x.sum(), -1);
        x.write(0, -1);
        due("sum() of the smallest int and -1", x.sum(), MAX);
        for (int b = 0; b < 16; b++) {
            ZonedLogStore one = new ZonedLogStore();
            one.write(b, 7);
            due("sum() after write(" + b + ", 7)", one.sum(), 7);
        }
    }

    private static void sumWhileDown() {
        changesNothing(DOWN, "sum()", ZonedLogStore::sum, 0);
        ZonedLogStore x = State.DOWN_SYNCED.make();
        x.mount();
        due("sum() once it is up", x.sum(), 1720);
    }

    private static void cleanWhileDown() {
        changesNothing(DOWN, "clean()", ZonedLogStore::clean, -1);
    }

    private static void cleanChangesNoAnswer() {
        changesNothing(UP, "clean()", ZonedLogStore::clean, 0);
        for (State s : UP) {
            same(s, "clean() many times", x -> {
                for (int n = 0; n < 100; n++) {
                    x.clean();
                }
            }, x -> { });
        }
    }

    private static void checkWhileDown() {
        changesNothing(DOWN, "check()", ZonedLogStore::check, -1);
    }

    private static void checkIsAlwaysZero() {
        changesNothing(UP, "check()", ZonedLogStore::check, 0);
        for (State s : DOWN) {
            ZonedLogStore x = s.make();
            x.mount();
            due(s + ": check() when mounted", x.check(), 0);
        }
    }

    // ---- the sentences

    private static void holds(String text, Runnable test) {
        sentence = text;
        // No call may throw; one that does must not hide what the later sentences show.
        try {
            test.run();
        } catch (RuntimeException e) {
            due("a call", e, "an int");
        }
    }

    private static void terms() {
        holds("this test's own states", BoundaryTest::theStatesAreWhatTheyAreTakenFor);
        holds("What it is: at most 512 calls", BoundaryTest::theLastOf512Calls);
        holds("Terms: a block is good if it is 0 .. 15", BoundaryTest::goodBlocks);
        holds("Terms: in both every block holds an int, 0 at first", BoundaryTest::everyBlockHoldsAnIntZeroAtFirst);
        holds("Terms: also if that changed nothing", BoundaryTest::unsyncedAlsoIfNothingChanged);
        holds("Terms: at most 6 blocks are unsynced at a time, none at first",
            BoundaryTest::atMostSixUnsyncedNoneAtFirst);
        holds("Terms: no block is unsynced then", BoundaryTest::syncingMakesDurableTheSame);
        holds("Terms: while it is down nothing can be read or written", BoundaryTest::whileDownNothingIsReadOrWritten);
        holds("Terms: What is written in an open group is current at once",
            BoundaryTest::writtenInAGroupIsCurrentAtOnce);
        holds("Terms: No question changes anything", BoundaryTest::noQuestionChangesAnything);
        holds("Terms: A refused call changes nothing", BoundaryTest::aRefusedCallChangesNothing);
        holds("Terms: the tests are made in the order named", BoundaryTest::theTestsAreMadeInTheOrderNamed);
    }

    private static void promises1To5() {
        holds("1: Everything as said above", BoundaryTest::aNewObject);
        holds("2: 1 if the device is up, 0 if it is down", BoundaryTest::upOrDown);
        holds("3: 0 if the device is down", BoundaryTest::readWhileDown);
        holds("3: or block is not good", BoundaryTest::readABlockThatIsNotGood);
        holds("4: -1 if the device is down", BoundaryTest::writeWhileDown);
        holds("4: -2 if block is not good", BoundaryTest::writeABlockThatIsNotGood);
        holds("4: -3 if a group is open, 6 blocks are unsynced, and this one is not among them",
            BoundaryTest::writeASeventhInAGroup);
        holds("4: the device syncs first", BoundaryTest::writeASeventhSyncsFirst);
        holds("5: -1 if the device is down", BoundaryTest::fillWhileDown);
        holds("5: -2 if count is not in 1 .. 16", BoundaryTest::fillOfABadCount);
        holds("5: first < 0", BoundaryTest::fillFromBelowZero);
        holds("5: first + count > 16 (for such counts)", BoundaryTest::fillBeyondTheLastBlock);
        holds("5: -3 if a group is open", BoundaryTest::fillInAGroup);
        holds("5: one after the other", BoundaryTest::fillIsLikeWritesOneAfterTheOther);
        holds("5: wrapping like ints", BoundaryTest::fillWrapsLikeInts);
    }

    private static void promises6To12() {
        holds("6: -1 if the device is down", BoundaryTest::syncWhileDown);
        holds("6: -2 if a group is open", BoundaryTest::syncInAGroup);
        holds("6: answers how many blocks were unsynced", BoundaryTest::syncAnswersHowMany);
        holds("7: -1 if the device is down", BoundaryTest::beginWhileDown);
        holds("7: -2 if a group is open", BoundaryTest::beginInAGroup);
        holds("7: the device syncs first", BoundaryTest::beginSyncsFirst);
        holds("8: -1 if the device is down", BoundaryTest::commitWhileDown);
        holds("8: -2 if no group is open", BoundaryTest::commitWithoutAGroup);
        holds("8: answers how many blocks were unsynced", BoundaryTest::commitAnswersHowMany);
        holds("9: -1 if the device is down", BoundaryTest::abortWhileDown);
        holds("9: -2 if no group is open", BoundaryTest::abortWithoutAGroup);
        holds("9: answers how many blocks were unsynced", BoundaryTest::abortAnswersHowMany);
        holds("10: -1 if it is down", BoundaryTest::crashWhileDown);
        holds("10: answers how many blocks were unsynced", BoundaryTest::crashAnswersHowMany);
        holds("11: -1 if the device is down", BoundaryTest::crashInWhileDown);
        holds("11: -2 if point is not in 0 .. 3", BoundaryTest::crashInAtABadPoint);
        holds("11: at the points 0, 1 and 2 the durable state stays as it was",
            BoundaryTest::crashInKeepsTheDurableStateBeforePoint3);
        holds("11: at point 3 it becomes the current one", BoundaryTest::crashInMakesTheCurrentStateDurableAtPoint3);
        holds("12: -1 if it is up", BoundaryTest::mountWhileUp);
        holds("12: otherwise 0", BoundaryTest::mountOtherwise);
    }

    private static void promises13To18() {
        holds("13: also while down", BoundaryTest::unsyncedAlsoWhileDown);
        holds("14: also while down", BoundaryTest::groupedAlsoWhileDown);
        holds("15: -1 if the device is down", BoundaryTest::pendingWhileDown);
        holds("15: How many blocks hold different values", BoundaryTest::pendingFromNoneToSix);
        holds("16: wrapping like an int", BoundaryTest::sumWrapsLikeAnInt);
        holds("16: 0 if the device is down", BoundaryTest::sumWhileDown);
        holds("17: -1 if it is down", BoundaryTest::cleanWhileDown);
        holds("17: nothing that is answered changes", BoundaryTest::cleanChangesNoAnswer);
        holds("18: -1 if it is down", BoundaryTest::checkWhileDown);
        holds("18: always 0", BoundaryTest::checkIsAlwaysZero);
    }

    public static void main(String[] args) {
        terms();
        promises1To5();
        promises6To12();
        promises13To18();
        if (wrong != 0) {
            System.out.println(wrong + " answers are not as due");
            System.exit(1);
        }
    }
}
