/** The numbers of the instructions, so that the tests' programs can be read. */
final class Op {
    static final int STOP = 0;
    static final int PUSH = 1;
    static final int EMPTY = 2;
    static final int LOAD = 3;
    static final int STORE = 4;
    static final int POP = 5;
    static final int DUP = 6;
    static final int SWAP = 7;
    static final int ADD = 8;
    static final int SUB = 9;
    static final int MUL = 10;
    static final int LESS = 11;
    static final int SAME = 12;
    static final int JUMP = 13;
    static final int ZERO = 14;
    static final int NEW = 15;
    static final int GET = 16;
    static final int PUT = 17;
    static final int IS = 18;
    static final int CALL = 19;
    static final int RETURN = 20;
    static final int TAKE = 21;
    static final int GIVE = 22;
    static final int OUT = 23;

    private Op() {
    }
}
