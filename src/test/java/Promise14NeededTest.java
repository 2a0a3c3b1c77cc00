/** Promise 14: which objects are needed, between runs and at a NEW. */
public final class Promise14NeededTest {
    public static void main(String[] args) {
        Due due = new Due();
        sharedAndRound(due);
        framesGo(due);
        for (int level = 0; level < 3; level++) {
            everyPlaceKeeps(due, level);
            for (int n = 0; n < 4; n++) {
                everyLocalKeeps(due, level, n);
            }
            framesKeep(due, level);
            goneFramesKeepNothing(due, level);
        }
        due.end();
    }

    private static void sharedAndRound(Due due) {
        // Two objects that have each other in fields, in globals 0 and 3.
        ManagedRuntime x = Program.of(Op.NEW, 0, Op.GIVE, 0, Op.NEW, 1, Op.GIVE, 3,
            Op.TAKE, 0, Op.TAKE, 3, Op.PUT, 2, Op.TAKE, 3, Op.TAKE, 0, Op.PUT, 0, Op.TAKE, 0, Op.TAKE, 0, Op.PUT, 1);
        due.is("run", x.run(0, 0), ManagedRuntime.ENDED);
        due.is("each counts once", x.needed(), 2);
        due.is("asked again", x.needed(), 2);
        x.clear(0);
        due.is("over a field", x.needed(), 2);
        x.clear(3);
        due.is("a ring without a global", x.needed(), 0);
    }

    private static void framesGo(Due due) {
        ManagedRuntime x = Program.of(Op.NEW, 0, Op.STORE, 0, Op.NEW, 0, Op.NEW, 0, Op.GIVE, 1, Op.STOP, 0);
        x.run(0, 0);
        due.is("no frames between runs", x.needed(), 1);
    }

    // One object in a global, locals, the stack and fields each; then 30 objects to drop.
    private static void everyPlaceKeeps(Due due, int level) {
        ManagedRuntime x = Program.of(Op.NEW, 1, Op.GIVE, 2, Op.NEW, 2, Op.STORE, 3, Op.NEW, 3,
            Op.TAKE, 2, Op.NEW, 2, Op.PUT, 0, Op.LOAD, 3, Op.NEW, 1, Op.PUT, 1, Op.DUP, 0, Op.NEW, 2, Op.PUT, 2,
            Op.PUSH, 30, Op.STORE, 1,
            Op.NEW, 0, Op.POP, 0, Op.LOAD, 1, Op.PUSH, 1, Op.SUB, 0, Op.DUP, 0, Op.STORE, 1, Op.ZERO, 25, Op.JUMP, 16,
            Op.LOAD, 3, Op.GIVE, 3, Op.GIVE, 0);
        x.level(level);
        due.is("run", x.run(0, 0), ManagedRuntime.ENDED);
        due.is("made", x.made(), 36);
        due.is("needed", x.needed(), 6);
        due.is("the global's", x.number(2, 3), 1);
        due.is("its field's", x.number(2, 12), 2);
        due.is("the local's", x.number(3, 3), 2);
        due.is("its field's", x.number(3, 13), 1);
        due.is("the stack's", x.number(0, 3), 3);
        due.is("its field's", x.number(0, 14), 2);
    }

    // The object in the local must outlast 20 others: its class and field tell.
    private static void everyLocalKeeps(Due due, int level, int n) {
        ManagedRuntime x = Program.of(Op.NEW, 3, Op.DUP, 0, Op.PUSH, 6, Op.PUT, 0, Op.STORE, n);
        for (int i = 5; i < 45; i += 4) {
            Program.put(x, i, Op.NEW, 0, Op.NEW, 0, Op.POP, 0, Op.POP, 0);
        }
        Program.put(x, 45, Op.LOAD, n, Op.GIVE, n);
        x.level(level);
        due.is("run", x.run(0, 0), ManagedRuntime.ENDED);
        due.is("class of the object in local " + n, x.number(n, 3), 3);
        due.is("its field", x.number(n, 12), 6);
        due.is("needed", x.needed(), 1);
    }

    // Ten frames, each of which has in local 2 an object and on its stack one more: the 17th must fail.
    private static void framesKeep(Due due, int level) {
        ManagedRuntime x = Program.of(Op.NEW, 0, Op.STORE, 2, Op.NEW, 0, Op.LOAD, 2, Op.EMPTY, 0, Op.CALL, 0);
        x.method(0, 0, 0);
        x.level(level);
        due.is("run", x.run(0, 0), ManagedRuntime.MEMORY);
        due.is("made", x.made(), 16);
        due.is("steps", x.steps(), 48);
        due.is("needed", x.needed(), 0);
        due.is("again", x.run(0, 0), ManagedRuntime.MEMORY);
        due.is("made again", x.made(), 16);
    }

    // Each call leaves objects in a gone frame's locals and stack: no round may run out of memory.
    private static void goneFramesKeepNothing(Due due, int level) {
        ManagedRuntime x = Program.of(Op.NEW, 0, Op.EMPTY, 0, Op.CALL, 0, Op.POP, 0, Op.JUMP, 0);
        Program.put(x, 10, Op.NEW, 1, Op.STORE, 2, Op.NEW, 1, Op.NEW, 1, Op.NEW, 1, Op.EMPTY, 0, Op.RETURN, 0);
        x.method(0, 0, 10);
        x.level(level);
        due.is("run", x.run(0, 0), ManagedRuntime.TIRED);
        due.is("made", x.made(), 125);
        Program.put(x, 30, Op.NEW, 0, Op.GIVE, 0, Op.TAKE, 0, Op.EMPTY, 0, Op.CALL, 0, Op.GIVE, 1, Op.JUMP, 40);
        // 15 more objects are as many as fit beside global 0's.
        Program.put(x, 40, Op.NEW, 0, Op.DUP, 0, Op.TAKE, 1, Op.PUT, 0, Op.GIVE, 1, Op.JUMP, 40);
        due.is("fill", x.run(30, 0), ManagedRuntime.MEMORY);
        due.is("made by filling", x.made(), 20);
        due.is("needed", x.needed(), 16);
    }
}
