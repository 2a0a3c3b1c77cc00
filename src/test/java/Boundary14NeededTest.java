/** The boundary cases of which objects are needed: the section "Terms" and promise 14. */
public final class Boundary14NeededTest {
    public static void main(String[] args) {
        Due due = new Due();
        due.sentence("An object is needed iff one can come to it over fields from a global or from a local or stack place of any frame",
            Boundary14NeededTest::neededInARun);
        due.sentence("The number of needed objects", Boundary14NeededTest::numberOfNeeded);
        due.sentence("(from globals alone, as there are no frames between runs)", Boundary14NeededTest::globalsAlone);
        due.end();
    }

    private static void neededInARun(Due due) {
        for (int level = 0; level < 3; level++) {
            for (int k = 0; k < 4; k++) {
                keptByGlobal(due, level, k);
                keptByLocal(due, level, k);
                keptByStackBelowACall(due, level, k);
            }
            for (int place = 0; place < 5; place++) {
                keptByStack(due, level, place);
            }
            for (int f = 0; f < 3; f++) {
                keptByField(due, level, f);
            }
            keptByFramesBefore(due, level);
            keptOverManyFields(due, level);
            notKeptByGoneFrames(due, level);
            ringsAreNotKept(due, level);
        }
    }

    private static ManagedRuntime with(int level, int objects) {
        ManagedRuntime x = new ManagedRuntime();
        x.level(level);
        Program.keep(x, objects);
        return x;
    }

    // Runs the code, which comes to a NEW while 16 objects are there: 16 needed, or 15 if one is let go.
    private static void full(Due due, String what, ManagedRuntime x, int... pairs) {
        Program.put(x, 0, pairs);
        due.is(what, x.run(0, 0), ManagedRuntime.MEMORY);
    }

    private static void free(Due due, String what, ManagedRuntime x, int... pairs) {
        Program.put(x, 0, pairs);
        due.is(what, x.run(0, 0), ManagedRuntime.ENDED);
    }

    private static void keptByGlobal(Due due, int level, int g) {
        // For global 0 the new object takes the chain's place: 15 others are let go.
        ManagedRuntime x = with(level, 15);
        int[] keep = {Op.NEW, 0, Op.GIVE, g, Op.NEW, 0, Op.STOP, 0};
        if (g > 0) {
            full(due, "global " + g, x, keep);
            x.clear(g);
            free(due, "global " + g + " made nothing", x, Op.NEW, 0, Op.GIVE, g, Op.EMPTY, 0, Op.GIVE, g, Op.NEW, 0, Op.STOP, 0);
        } else {
            free(due, "global 0 with another value", x, keep);
            due.is("only that one is needed", x.needed(), 1);
        }
    }

    private static void keptByLocal(Due due, int level, int n) {
        ManagedRuntime x = with(level, 15);
        full(due, "local " + n, x, Op.NEW, 0, Op.STORE, n, Op.NEW, 0, Op.STOP, 0);
        free(due, "local " + n + " with another value", x,
            Op.NEW, 0, Op.STORE, n, Op.EMPTY, 0, Op.STORE, n, Op.NEW, 0, Op.STOP, 0);
    }

    private static void keptByStack(Due due, int level, int place) {
        ManagedRuntime x = with(level, 15);
        for (int i = 0; i < place; i++) {
            x.code(i, Op.EMPTY, 0);
        }
        Program.put(x, place, Op.NEW, 0, Op.NEW, 0, Op.STOP, 0);
        due.is("stack place " + place, x.run(0, 0), ManagedRuntime.MEMORY);
        Program.put(x, place, Op.NEW, 0, Op.POP, 0, Op.NEW, 0, Op.STOP, 0);
        due.is("stack place " + place + " above the top", x.run(0, 0), ManagedRuntime.ENDED);
    }

    // The place is one of the first frame's, while the second frame works.
    private static void keptByStackBelowACall(Due due, int level, int place) {
        ManagedRuntime x = with(level, 15);
        x.method(0, 0, 20);
        for (int i = 0; i < place; i++) {
            x.code(i, Op.EMPTY, 0);
        }
        Program.put(x, place, Op.NEW, 0, Op.TAKE, 0, Op.EMPTY, 0, Op.CALL, 0);
        Program.put(x, 20, Op.NEW, 0, Op.STOP, 0);
        due.is("stack place " + place + " of the frame before", x.run(0, 0), ManagedRuntime.MEMORY);
        Program.put(x, place, Op.NEW, 0, Op.POP, 0, Op.TAKE, 0, Op.EMPTY, 0, Op.CALL, 0);
        due.is("stack place " + place + " above the top of the frame before", x.run(0, 0), ManagedRuntime.ENDED);
    }

    private static void keptByField(Due due, int level, int f) {
        // Field 0 of the object in global 0 holds the rest of the chain; the others are free.
        ManagedRuntime x = with(level, 15);
        int[] keep = {Op.TAKE, 0, Op.NEW, 0, Op.PUT, f, Op.NEW, 0, Op.STOP, 0};
        if (f > 0) {
            full(due, "field " + f, x, keep);
            free(due, "field " + f + " with another value", x,
                Op.TAKE, 0, Op.EMPTY, 0, Op.PUT, f, Op.NEW, 0, Op.STOP, 0);
            due.is("needed again", x.needed(), 15);
        } else {
            free(due, "field 0 with another value", x, keep);
            due.is("the rest is needed no more", x.needed(), 2);
        }
    }

    // The calls' own values are the only ones that keep the objects: receivers and arguments of ten frames.
    private static void keptByFramesBefore(Due due, int level) {
        ManagedRuntime x = Program.of(Op.NEW, 0, Op.NEW, 1, Op.CALL, 0);
        x.level(level);
        x.method(0, 0, 0);
        due.is("two objects in each frame", x.run(0, 0), ManagedRuntime.MEMORY);
        due.is("made", x.made(), 16);
        due.is("steps", x.steps(), 24);
        // With the argument let go in each frame, one object in each is left: ten frames fit.
        Program.put(x, 10, Op.EMPTY, 0, Op.STORE, 1, Op.NEW, 0, Op.NEW, 1, Op.CALL, 0);
        x.method(0, 0, 10);
        due.is("one object in each frame", x.run(10, 0), ManagedRuntime.DEEP);
        due.is("made", x.made(), 20);
    }

    // The one way to 15 objects is the object in local 0 and then field 2 of each.
    private static void keptOverManyFields(Due due, int level) {
        ManagedRuntime x = new ManagedRuntime();
        x.level(level);
        Program.put(x, 0, Op.NEW, 1, Op.DUP, 0, Op.LOAD, 0, Op.PUT, 2, Op.STORE, 0, Op.JUMP, 0);
        due.is("a chain from a local", x.run(0, 0), ManagedRuntime.MEMORY);
        due.is("made", x.made(), 16);
        // Without the PUT, only the latest object is needed.
        Program.put(x, 2, Op.POP, 0, Op.JUMP, 4);
        due.is("no chain", x.run(0, 0), ManagedRuntime.TIRED);
        due.is("made in 50 rounds of 6", x.made(), 50);
    }

    // A frame that goes leaves objects in every local and five stack places; only what it returns is needed.
    private static void notKeptByGoneFrames(Due due, int level) {
        ManagedRuntime x = Program.of(Op.NEW, 0, Op.EMPTY, 0, Op.CALL, 0,
            Op.NEW, 0, Op.NEW, 0, Op.NEW, 0, Op.NEW, 0, Op.NEW, 0, Op.STOP, 0);
        x.method(0, 0, 20);
        Program.put(x, 20, Op.NEW, 1, Op.STORE, 0, Op.NEW, 1, Op.STORE, 1, Op.NEW, 1, Op.STORE, 2, Op.NEW, 1, Op.STORE, 3,
            Op.NEW, 1, Op.NEW, 1, Op.NEW, 1, Op.NEW, 1, Op.NEW, 1, Op.NEW, 2, Op.RETURN, 0);
        x.level(level);
        // The frame itself has room for its ten, beside what global 0 leads to.
        Program.keep(x, 6);
        due.is("as many as fit", x.run(0, 0), ManagedRuntime.ENDED);
        due.is("made", x.made(), 16);
        Program.keep(x, 1);
        due.is("one too many", x.run(0, 0), ManagedRuntime.MEMORY);
        due.is("made by that", x.made(), 10);
    }

    // Two objects with each other in their fields, let go: no round may find the memory full.
    private static void ringsAreNotKept(Due due, int level) {
        ManagedRuntime x = with(level, 14);
        Program.put(x, 0, Op.NEW, 1, Op.STORE, 2, Op.NEW, 2, Op.STORE, 3, Op.LOAD, 2, Op.LOAD, 3, Op.PUT, 0,
            Op.LOAD, 3, Op.LOAD, 2, Op.PUT, 1, Op.EMPTY, 0, Op.STORE, 2, Op.EMPTY, 0, Op.STORE, 3, Op.JUMP, 0);
        due.is("rings", x.run(0, 0), ManagedRuntime.TIRED);
        due.is("made in 20 rounds of 15", x.made(), 40);
        Program.keep(x, 1);
        due.is("rings beside one more", x.run(0, 0), ManagedRuntime.MEMORY);
        due.is("made by that", x.made(), 1);
    }

    private static void numberOfNeeded(Due due) {
        ManagedRuntime x = new ManagedRuntime();
        due.is("none", x.needed(), 0);
        for (int k = 1; k <= 16; k++) {
            Program.keep(x, 1);
            due.is("needed", x.needed(), k);
        }
        due.is("a 17th", x.run(54, 0), ManagedRuntime.MEMORY);
        due.is("is not there", x.needed(), 16);
        x.clear(0);
        due.is("none again", x.needed(), 0);
        // One object in all globals and in its own fields counts once.
        ManagedRuntime y = Program.of(Op.NEW, 0, Op.DUP, 0, Op.GIVE, 0, Op.DUP, 0, Op.GIVE, 1, Op.DUP, 0, Op.GIVE, 2,
            Op.DUP, 0, Op.GIVE, 3, Op.TAKE, 0, Op.TAKE, 0, Op.PUT, 0, Op.TAKE, 0, Op.TAKE, 0, Op.PUT, 2);
        y.run(0, 0);
        for (int g = 0; g < 4; g++) {
            due.is("one object in " + (4 - g) + " globals", y.needed(), 1);
            y.clear(g);
        }
        due.is("in none", y.needed(), 0);
    }

    private static void globalsAlone(Due due) {
        int[][] endings = {{Op.STOP, 0}, {Op.RETURN, 0}, {Op.ADD, 0}, {Op.JUMP, 60}, {Op.EMPTY, 0, Op.CALL, 0}};
        for (int[] ending : endings) {
            // An object in a global, one in a local and one on the stack when the run ends.
            ManagedRuntime x = Program.of(Op.NEW, 0, Op.GIVE, 2, Op.NEW, 0, Op.STORE, 3, Op.NEW, 0, Op.NEW, 0);
            Program.put(x, 6, ending);
            due.is("before", x.needed(), 0);
            x.run(0, 0);
            due.is("made", x.made(), 4);
            due.is("after op " + ending[0], x.needed(), 1);
            x.clear(2);
            due.is("after clear", x.needed(), 0);
        }
    }
}
