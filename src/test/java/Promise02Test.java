/** Promise 2: emit. */
public final class Promise02Test {
    private static final Due due = new Due();

    public static void main(String[] args) {
        positions();
        everyArgument();
        orderOfTheTests();
        fullProcedure();
        fullProgram();
        refusedChangesNothing();
        storesWhatWasGiven();
        sealed();
        due.end();
    }

    private static void positions() {
        LockLevelTypes x = new LockLevelTypes(8, 1);
        due.same("first of 3", x.emit(3, 1, 0), 0);
        due.same("second of 3", x.emit(3, 2, 0), 1);
        due.same("first of 5", x.emit(5, 0, 0), 0);
        due.same("third of 3", x.emit(3, 3, 5), 2);
        due.same("first of 7", x.emit(7, 2, 7), 0);
        due.same("second of 5", x.emit(5, 3, 7), 1);
    }

    /** Every opcode and argument on a new object: only the tests 2 to 4 can apply. */
    private static void everyArgument() {
        for (int locks = 2; locks <= 8; locks++) {
            for (int proc : Programs.NUMBERS) {
                for (int op : Programs.NUMBERS) {
                    for (int arg : Programs.NUMBERS) {
                        LockLevelTypes x = new LockLevelTypes(locks, 1);
                        due.same("emit(" + proc + ", " + op + ", " + arg + ") with " + locks + " locks",
                            x.emit(proc, op, arg), wanted(locks, proc, op, arg));
                    }
                }
            }
        }
    }

    private static int wanted(int locks, int proc, int op, int arg) {
        if (proc < 0 || proc > 7) return -2;
        switch (op) {
            case 0: return 0;
            case 1:
            case 2: return arg >= 0 && arg <= locks - 1 ? 0 : -4;
            case 3: return arg >= proc + 1 && arg <= 7 ? 0 : -4;
            default: return -3;
        }
    }

    private static void orderOfTheTests() {
        LockLevelTypes x = Programs.make(2, 1, "N N N N N N N N");
        due.same("bad procedure, opcode and argument", x.emit(8, 4, 99), LockLevelTypes.ERR_PROC);
        due.same("bad procedure and argument", x.emit(-1, 1, 99), LockLevelTypes.ERR_PROC);
        due.same("bad opcode in a full procedure", x.emit(0, 4, 99), LockLevelTypes.ERR_OP);
        due.same("bad lock in a full procedure", x.emit(0, 1, 2), LockLevelTypes.ERR_ARG);
        due.same("bad lock to release in a full procedure", x.emit(0, 2, -1), LockLevelTypes.ERR_ARG);
        due.same("bad call in a full procedure", x.emit(0, 3, 0), LockLevelTypes.ERR_ARG);
        due.same("any NOP in a full procedure", x.emit(0, 0, 99), LockLevelTypes.ERR_FULL);
        due.same("good call in a full procedure", x.emit(0, 3, 1), LockLevelTypes.ERR_FULL);
    }

    private static void fullProcedure() {
        for (int proc = 0; proc < 8; proc++) {
            LockLevelTypes x = new LockLevelTypes(2, 1);
            for (int i = 0; i < 8; i++) {
                due.same("position in " + proc, x.emit(proc, 1, 1), i);
            }
            due.same("ninth in " + proc, x.emit(proc, 1, 1), LockLevelTypes.ERR_FULL);
            due.same("tenth in " + proc, x.emit(proc, 0, 0), LockLevelTypes.ERR_FULL);
            int other = (proc + 1) % 8;
            due.same("first in another beside " + proc, x.emit(other, 0, 0), 0);
        }
    }

    private static void fullProgram() {
        LockLevelTypes spread = new LockLevelTypes(2, 1);
        for (int i = 0; i < 32; i++) {
            due.same("spread position " + i, spread.emit(i % 8, 0, 0), i / 8);
        }
        for (int proc = 0; proc < 8; proc++) {
            due.same("33rd in " + proc, spread.emit(proc, 0, 0), LockLevelTypes.ERR_FULL);
        }
        due.same("33rd with a bad opcode", spread.emit(7, -1, 0), LockLevelTypes.ERR_OP);
        due.same("33rd as a call in 7", spread.emit(7, 3, 7), LockLevelTypes.ERR_ARG);
        due.same("33rd with a bad lock", spread.emit(7, 2, 2), LockLevelTypes.ERR_ARG);

        LockLevelTypes packed = new LockLevelTypes(2, 1);
        for (int i = 0; i < 32; i++) {
            due.same("packed position " + i, packed.emit(4 + i / 8, 0, 0), i % 8);
        }
        due.same("33rd in an empty procedure", packed.emit(0, 0, 0), LockLevelTypes.ERR_FULL);
    }

    private static void refusedChangesNothing() {
        LockLevelTypes x = new LockLevelTypes(2, 1);
        for (int i = 0; i < 31; i++) {
            x.emit(-1, 0, 0);
            x.emit(8, 0, 0);
            x.emit(i / 4, 4, 0);
            x.emit(i / 4, 1, 2);
            x.emit(i / 4, 3, i / 4);
            due.same("position after refusals", x.emit(i / 4, 0, 0), i % 4);
        }
        due.same("32nd after refusals", x.emit(7, 0, 0), 3);
        due.same("33rd after refusals", x.emit(7, 0, 0), LockLevelTypes.ERR_FULL);
        LockLevelTypes full = new LockLevelTypes(2, 1);
        for (int i = 0; i < 12; i++) {
            full.emit(0, i < 8 ? 1 : 2, 0);
        }
        for (int i = 0; i < 24; i++) {
            due.same("room that refusals left", full.emit(1 + i / 8, 0, 0), i % 8);
        }
        full.check();
        due.same("soloLength of a procedure that refused", full.soloLength(0), 8);
        full.run(0, 20);
        due.same("holdCount of a procedure that refused", full.holdCount(0), 8);
    }

    private static void storesWhatWasGiven() {
        for (int lock = 0; lock < 8; lock++) {
            LockLevelTypes x = Programs.sealed(8, 1, "A" + lock + " N R" + lock + " N");
            x.step(0);
            due.same("holder after ACQ " + lock, x.holder(lock), 0);
            x.run(0, 2);
            due.same("holder after REL " + lock, x.holder(lock), -1);
        }
        for (int proc = 1; proc < 8; proc++) {
            LockLevelTypes x = Programs.make(8, 1, "C" + proc);
            Programs.load(x, proc, "N");
            x.check();
            x.step(0);
            due.same("frameProc after CALL " + proc, x.frameProc(0), proc);
        }
        LockLevelTypes nop = new LockLevelTypes(2, 1);
        for (int arg : new int[] {Integer.MIN_VALUE, -1, 0, 1, 7, 8, Integer.MAX_VALUE}) {
            nop.emit(0, 0, arg);
        }
        due.same("check of NOPs with any argument", nop.check(), LockLevelTypes.ACCEPT);
        due.same("NOPs with any argument", nop.run(0, 20), 7);
        due.same("locks after NOPs", nop.holder(1), -1);
        LockLevelTypes entries = new LockLevelTypes(2, 2);
        entries.setEntry(1, 4);
        entries.emit(4, 0, 0);
        entries.emit(1, 0, 0);
        entries.emit(1, 0, 0);
        entries.check();
        due.same("entry after emit", entries.frameProc(1), 4);
    }

    private static void sealed() {
        LockLevelTypes x = Programs.sealed(2, 2, "A0 R0", "N");
        String before = Programs.all(x);
        for (int proc : Programs.NUMBERS) {
            for (int op : Programs.NUMBERS) {
                due.same("emit(" + proc + ", " + op + ", 1) when sealed", x.emit(proc, op, 1), LockLevelTypes.ERR_SEALED);
            }
        }
        due.same("CALL in 7 when sealed", x.emit(7, 3, 7), LockLevelTypes.ERR_SEALED);
        due.same("all after emits when sealed", Programs.all(x), before);
        due.same("instructions of thread 0", x.run(0, 20), 2);
        due.same("instructions of thread 1", x.run(0x55555555, 20), 1);
    }
}
