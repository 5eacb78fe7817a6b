import java.util.function.ToIntFunction;

/** At least one test for each promise of the document: ordinary inputs, named edges and wrong inputs. */
public final class PromiseTest {
    private static int wrong = 0;

    private static void due(String what, int got, int want) {
        if (got != want) {
            wrong++;
            System.out.println(what + " answered " + got + ", due is " + want);
        }
    }

    private static ZonedLogStore fresh() {
        return new ZonedLogStore();
    }

    private static ZonedLogStore down() {
        ZonedLogStore x = fresh();
        x.crash();
        return x;
    }

    /** Blocks 0 .. 5 unsynced, holding 1 .. 6, with a group open or not. */
    private static ZonedLogStore full(boolean group) {
        ZonedLogStore x = fresh();
        if (group) {
            x.begin();
        }
        for (int i = 0; i < 6; i++) {
            due("full: write " + i, x.write(i, i + 1), 0);
        }
        return x;
    }

    private static void dueBlocks(String what, ZonedLogStore x, int... want) {
        for (int i = 0; i < 16; i++) {
            due(what + ": read(" + i + ")", x.read(i), i < want.length ? want[i] : 0);
        }
    }

    /** What became durable, seen by losing power and coming up again. */
    private static void dueDurable(String what, ZonedLogStore x, int... want) {
        if (x.up() == 1) {
            x.crash();
        }
        due(what + ": mount", x.mount(), 0);
        dueBlocks(what + ", durable", x, want);
    }

    private static void dueState(String what, ZonedLogStore x, int up, int unsynced, int grouped, int pending) {
        due(what + ": up", x.up(), up);
        due(what + ": unsynced", x.unsynced(), unsynced);
        due(what + ": grouped", x.grouped(), grouped);
        due(what + ": pending", x.pending(), pending);
    }

    /** The call is refused on an object with unsynced blocks, and leaves all of it as it was. */
    private static void refusedUp(String what, boolean group, ToIntFunction<ZonedLogStore> call, int want) {
        ZonedLogStore x = full(group);
        due(what, call.applyAsInt(x), want);
        dueState(what + ", after", x, 1, 6, group ? 1 : 0, 6);
        dueBlocks(what + ", after", x, 1, 2, 3, 4, 5, 6);
        dueDurable(what + ", after", x);
    }

    /** The call is refused while down, and leaves all of it as it was. */
    private static void refusedDown(String what, ToIntFunction<ZonedLogStore> call) {
        ZonedLogStore x = full(false);
        x.sync();
        x.crash();
        due(what + " while down", call.applyAsInt(x), -1);
        dueState(what + " while down, after", x, 0, 0, 0, -1);
        dueDurable(what + " while down, after", x, 1, 2, 3, 4, 5, 6);
        dueState(what + " while down, mounted", x, 1, 0, 0, 0);
    }

    private static void promise1NewObject() {
        ZonedLogStore x = fresh();
        dueState("new", x, 1, 0, 0, 0);
        due("new: sum", x.sum(), 0);
        dueBlocks("new", x);
        ZonedLogStore other = fresh();
        x.write(3, 3);
        due("new: another object", other.read(3), 0);
        due("new: another object's unsynced", other.unsynced(), 0);
        dueDurable("new", fresh());
    }

    private static void promise2Up() {
        ZonedLogStore x = fresh();
        due("up: new", x.up(), 1);
        x.crash();
        due("up: after crash", x.up(), 0);
        due("up: asked again", x.up(), 0);
        x.mount();
        due("up: after mount", x.up(), 1);
        x.crashIn(3);
        due("up: after crashIn", x.up(), 0);
    }

    private static void promise3Read() {
        ZonedLogStore x = fresh();
        x.write(0, Integer.MIN_VALUE);
        x.write(15, Integer.MAX_VALUE);
        due("read(0)", x.read(0), Integer.MIN_VALUE);
        due("read(15)", x.read(15), Integer.MAX_VALUE);
        for (int bad : new int[] {-1, 16, 17, Integer.MIN_VALUE, Integer.MAX_VALUE}) {
            due("read(" + bad + ")", x.read(bad), 0);
        }
        due("read: changes nothing", x.pending(), 2);
        x.sync();
        x.crash();
        due("read(0) while down", x.read(0), 0);
        due("read(16) while down", x.read(16), 0);
        x.mount();
        due("read(0) mounted", x.read(0), Integer.MIN_VALUE);
    }

    private static void promise4Write() {
        ZonedLogStore x = fresh();
        due("write", x.write(7, 70), 0);
        due("write: read", x.read(7), 70);
        dueState("write", x, 1, 1, 0, 1);
        due("write: again", x.write(7, 71), 0);
        dueState("write: the same block twice", x, 1, 1, 0, 1);
        due("write: nothing changed", x.write(8, 0), 0);
        dueState("write: nothing changed", x, 1, 2, 0, 1);
        due("write: back to durable", x.write(7, 0), 0);
        dueState("write: back to durable", x, 1, 2, 0, 0);

        for (int bad : new int[] {-1, 16, Integer.MIN_VALUE, Integer.MAX_VALUE}) {
            refusedUp("write(" + bad + ")", false, y -> y.write(bad, 9), -2);
            refusedUp("write(" + bad + ") in a full group", true, y -> y.write(bad, 9), -2);
            refusedDown("write(" + bad + ")", y -> y.write(bad, 9));
        }
        refusedUp("write: seventh in a group", true, y -> y.write(6, 9), -3);
        refusedUp("write: seventh in a group, nothing changed", true, y -> y.write(15, 0), -3);
        refusedDown("write(0)", y -> y.write(0, 9));

        ZonedLogStore member = full(true);
        due("write: one of six in a group", member.write(5, 60), 0);
        dueState("write: one of six in a group", member, 1, 6, 1, 6);
        dueBlocks("write: one of six in a group", member, 1, 2, 3, 4, 5, 60);
        dueDurable("write: one of six in a group", member);

        ZonedLogStore same = full(false);
        due("write: one of six", same.write(0, 10), 0);
        dueState("write: one of six", same, 1, 6, 0, 6);
        dueDurable("write: one of six does not sync", same);

        ZonedLogStore seventh = full(false);
        due("write: seventh", seventh.write(6, 7), 0);
        dueState("write: seventh syncs first", seventh, 1, 1, 0, 1);
        dueBlocks("write: seventh", seventh, 1, 2, 3, 4, 5, 6, 7);
        dueDurable("write: seventh is not synced itself", seventh, 1, 2, 3, 4, 5, 6);
    }

    private static void promise5Fill() {
        ZonedLogStore x = fresh();
        due("fill", x.fill(2, 3, 10, -4), 0);
        dueBlocks("fill", x, 0, 0, 10, 6, 2);
        dueState("fill", x, 1, 3, 0, 3);
        dueDurable("fill", x);

        ZonedLogStore all = fresh();
        due("fill: all", all.fill(0, 16, 1, 1), 0);
        dueBlocks("fill: all", all, 1, 2, 3, 4, 5, 6, 7, 8, 9, 10, 11, 12, 13, 14, 15, 16);
        dueState("fill: all", all, 1, 4, 0, 4);
        dueDurable("fill: all", all, 1, 2, 3, 4, 5, 6, 7, 8, 9, 10, 11, 12);

        ZonedLogStore over = full(false);
        due("fill: over unsynced ones", over.fill(4, 3, 50, 1), 0);
        dueState("fill: over unsynced ones", over, 1, 1, 0, 1);
        dueDurable("fill: over unsynced ones", over, 1, 2, 3, 4, 50, 51);

        ZonedLogStore last = fresh();
        due("fill: the last block", last.fill(15, 1, 5, 9), 0);
        due("fill: the last block's value", last.read(15), 5);
        due("fill: the last block alone", last.unsynced(), 1);

        ZonedLogStore wraps = fresh();
        due("fill: wraps", wraps.fill(0, 4, Integer.MAX_VALUE, Integer.MAX_VALUE), 0);
        dueBlocks("fill: wraps", wraps, Integer.MAX_VALUE, -2, Integer.MAX_VALUE - 2, -4);

        fillRefused();
    }

    private static void fillRefused() {
        int[][] bad = {
            {0, 0}, {0, -1}, {0, 17}, {1, 16}, {-1, 1}, {-1, 16}, {15, 2}, {16, 1}, {10, 7},
            {Integer.MAX_VALUE, 1}, {Integer.MAX_VALUE, 16}, {Integer.MIN_VALUE, 1},
            {0, Integer.MAX_VALUE}, {0, Integer.MIN_VALUE}, {1, Integer.MAX_VALUE},
            {Integer.MIN_VALUE, Integer.MIN_VALUE}, {-5, 10}, {20, -10},
        };
        for (int[] b : bad) {
            String call = "fill(" + b[0] + ", " + b[1] + ")";
            refusedUp(call, false, y -> y.fill(b[0], b[1], 9, 1), -2);
            refusedUp(call + " in a group", true, y -> y.fill(b[0], b[1], 9, 1), -2);
            refusedDown(call, y -> y.fill(b[0], b[1], 9, 1));
        }
        refusedUp("fill in a group", true, y -> y.fill(0, 1, 9, 1), -3);
        refusedUp("fill of all in a group", true, y -> y.fill(0, 16, 9, 1), -3);
        refusedDown("fill", y -> y.fill(0, 1, 9, 1));
        ZonedLogStore empty = fresh();
        empty.begin();
        due("fill in an empty group", empty.fill(0, 1, 1, 1), -3);
        due("fill in an empty group: read", empty.read(0), 0);
    }

    private static void promise6Sync() {
        ZonedLogStore x = full(false);
        due("sync", x.sync(), 6);
        dueState("sync", x, 1, 0, 0, 0);
        due("sync: again", x.sync(), 0);
        dueBlocks("sync", x, 1, 2, 3, 4, 5, 6);
        dueDurable("sync", x, 1, 2, 3, 4, 5, 6);
        ZonedLogStore same = fresh();
        same.write(4, 0);
        due("sync: a write that changed nothing", same.sync(), 1);
        refusedUp("sync in a group", true, ZonedLogStore::sync, -2);
        refusedDown("sync", ZonedLogStore::sync);
    }

    private static void promise7Begin() {
        ZonedLogStore x = full(false);
        due("begin", x.begin(), 0);
        dueState("begin", x, 1, 0, 1, 0);
        dueDurable("begin syncs first", x, 1, 2, 3, 4, 5, 6);
        due("begin: the group ended with the crash", x.grouped(), 0);
        refusedUp("begin in a group", true, ZonedLogStore::begin, -2);
        refusedDown("begin", ZonedLogStore::begin);
    }

    private static void promise8Commit() {
        ZonedLogStore x = full(true);
        due("commit", x.commit(), 6);
        dueState("commit", x, 1, 0, 0, 0);
        due("commit: again", x.commit(), -2);
        dueDurable("commit", x, 1, 2, 3, 4, 5, 6);
        ZonedLogStore empty = fresh();
        empty.begin();
        due("commit: nothing written", empty.commit(), 0);
        due("commit: nothing written, closed", empty.grouped(), 0);
        refusedUp("commit without a group", false, ZonedLogStore::commit, -2);
        refusedDown("commit", ZonedLogStore::commit);
    }

    private static void promise9Abort() {
        ZonedLogStore x = full(false);
        x.begin();
        x.write(0, 100);
        x.write(9, 0);
        due("abort", x.abort(), 2);
        dueState("abort", x, 1, 0, 0, 0);
        dueBlocks("abort", x, 1, 2, 3, 4, 5, 6);
        due("abort: again", x.abort(), -2);
        for (int i = 0; i < 6; i++) {
            x.write(10 + i, 0);
        }
        due("abort: what was unsynced is counted anew", x.write(0, 7), 0);
        due("abort: the seventh synced", x.unsynced(), 1);
        dueDurable("abort", x, 1, 2, 3, 4, 5, 6);
        refusedUp("abort without a group", false, ZonedLogStore::abort, -2);
        refusedDown("abort", ZonedLogStore::abort);
    }

    private static void promise10Crash() {
        ZonedLogStore x = full(false);
        x.sync();
        x.write(0, 100);
        x.write(1, 2);
        due("crash", x.crash(), 2);
        dueState("crash", x, 0, 0, 0, -1);
        dueDurable("crash", x, 1, 2, 3, 4, 5, 6);
        dueState("crash, mounted", x, 1, 0, 0, 0);
        ZonedLogStore group = full(true);
        due("crash in a group", group.crash(), 6);
        dueState("crash in a group", group, 0, 0, 0, -1);
        dueDurable("crash in a group", group);
        due("crash in a group: closed", group.commit(), -2);
        due("crash: nothing unsynced", fresh().crash(), 0);
        refusedDown("crash", ZonedLogStore::crash);
    }

    private static void promise11CrashIn() {
        for (int point = 0; point <= 3; point++) {
            for (boolean group : new boolean[] {false, true}) {
                String what = "crashIn(" + point + ")" + (group ? " in a group" : "");
                ZonedLogStore x = full(group);
                due(what, x.crashIn(point), 0);
                dueState(what, x, 0, 0, 0, -1);
                if (point == 3) {
                    dueDurable(what, x, 1, 2, 3, 4, 5, 6);
                } else {
                    dueDurable(what, x);
                }
                dueState(what + ", mounted", x, 1, 0, 0, 0);
            }
            int p = point;
            refusedDown("crashIn(" + p + ")", y -> y.crashIn(p));
        }
        for (int bad : new int[] {-1, 4, Integer.MIN_VALUE, Integer.MAX_VALUE}) {
            refusedUp("crashIn(" + bad + ")", false, y -> y.crashIn(bad), -2);
            refusedUp("crashIn(" + bad + ") in a group", true, y -> y.crashIn(bad), -2);
            refusedDown("crashIn(" + bad + ")", y -> y.crashIn(bad));
        }
    }

    private static void promise12Mount() {
        ZonedLogStore x = down();
        due("mount", x.mount(), 0);
        due("mount: up", x.up(), 1);
        due("mount: again", x.mount(), -1);
        due("mount: written after", x.write(1, 1), 0);
        refusedUp("mount while up", false, ZonedLogStore::mount, -1);
        refusedUp("mount in a group", true, ZonedLogStore::mount, -1);
    }

    private static void promise13Unsynced() {
        ZonedLogStore x = fresh();
        for (int i = 0; i < 6; i++) {
            x.write(15 - i, 0);
            due("unsynced", x.unsynced(), i + 1);
        }
        x.write(15, 3);
        due("unsynced: one of them again", x.unsynced(), 6);
        due("unsynced: asked again", x.unsynced(), 6);
        x.crash();
        due("unsynced while down", x.unsynced(), 0);
    }

    private static void promise14Grouped() {
        ZonedLogStore x = fresh();
        due("grouped: new", x.grouped(), 0);
        x.begin();
        due("grouped: begun", x.grouped(), 1);
        x.write(0, 1);
        due("grouped: written", x.grouped(), 1);
        x.abort();
        due("grouped: aborted", x.grouped(), 0);
        x.begin();
        x.commit();
        due("grouped: committed", x.grouped(), 0);
        x.begin();
        x.crash();
        due("grouped: while down", x.grouped(), 0);
    }

    private static void promise15Pending() {
        ZonedLogStore x = fresh();
        x.write(0, 1);
        x.write(15, 1);
        x.write(7, 0);
        due("pending", x.pending(), 2);
        due("pending: asked again", x.pending(), 2);
        x.write(0, 0);
        due("pending: one back to durable", x.pending(), 1);
        x.sync();
        due("pending: synced", x.pending(), 0);
        x.begin();
        x.write(15, 2);
        due("pending: in a group", x.pending(), 1);
        x.crash();
        due("pending: while down", x.pending(), -1);
    }

    private static void promise16Sum() {
        ZonedLogStore x = fresh();
        x.fill(0, 16, 1, 1);
        due("sum", x.sum(), 136);
        x.write(0, Integer.MAX_VALUE);
        due("sum: wraps", x.sum(), Integer.MIN_VALUE + 134);
        due("sum: asked again", x.sum(), Integer.MIN_VALUE + 134);
        x.sync();
        x.crash();
        due("sum: while down", x.sum(), 0);
        x.mount();
        due("sum: mounted", x.sum(), Integer.MIN_VALUE + 134);
    }

    /** For the calls that answer 0 while up and must leave everything as it was. */
    private static void idle(String what, ToIntFunction<ZonedLogStore> call) {
        due(what + ": new", call.applyAsInt(fresh()), 0);
        refusedUp(what, false, call, 0);
        refusedUp(what + " in a group", true, call, 0);
        refusedDown(what, call);
    }

    public static void main(String[] args) {
        promise1NewObject();
        promise2Up();
        promise3Read();
        promise4Write();
        promise5Fill();
        promise6Sync();
        promise7Begin();
        promise8Commit();
        promise9Abort();
        promise10Crash();
        promise11CrashIn();
        promise12Mount();
        promise13Unsynced();
        promise14Grouped();
        promise15Pending();
        promise16Sum();
        idle("promise 17: clean", ZonedLogStore::clean);
        idle("promise 18: check", ZonedLogStore::check);
        if (wrong != 0) {
            System.out.println(wrong + " answers are not as due");
            System.exit(1);
        }
    }
}
