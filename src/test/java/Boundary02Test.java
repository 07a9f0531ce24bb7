/** The boundary cases of promise 2, emit, a test for each sentence. */
public final class Boundary02Test {
    private static final int SEALED = LockLevelTypes.ERR_SEALED;
    private static final int PROC = LockLevelTypes.ERR_PROC;
    private static final int OP = LockLevelTypes.ERR_OP;
    private static final int ARG = LockLevelTypes.ERR_ARG;
    private static final int FULL = LockLevelTypes.ERR_FULL;

    public static void main(String[] args) {
        Sentences.run(Boundary02Test::list);
    }

    static void list(Sentences s) {
        s.says("`emit(proc, op, arg)` appends instruction (op, arg) at the end of procedure `proc`", Boundary02Test::appends);
        s.says("The tests are made in this order, and the first that applies gives the answer", Boundary02Test::orderOfTheTests);
        s.says("Sealed -> `ERR_SEALED`", Boundary02Test::sealed);
        s.says("`proc` not in 0..7 -> `ERR_PROC`", Boundary02Test::badProcedure);
        s.says("`op` not in 0..3 -> `ERR_OP`", Boundary02Test::badOpcode);
        s.says("For `OP_ACQ` or `OP_REL`, `arg` not in 0..lockCount-1", Boundary02Test::badLock);
        s.says("or for `OP_CALL`, `arg` not in proc+1..7 -> `ERR_ARG`", Boundary02Test::badCall);
        s.says("For `OP_NOP` the argument is ignored (any value is accepted)", Boundary02Test::nopTakesAnyArgument);
        s.says("and is stored as 0", Boundary02Test::nopArgumentIsForgotten);
        s.says("A CALL emitted into procedure 7 that reaches this test always gets `ERR_ARG`", Boundary02Test::callInSeven);
        s.says("(when sealed it gets `ERR_SEALED`)", Boundary02Test::callInSevenWhenSealed);
        s.says("The procedure already has 8 instructions", Boundary02Test::fullProcedure);
        s.says("or the program already has 32 -> `ERR_FULL`", Boundary02Test::fullProgram);
        s.says("A refused call changes nothing", Boundary02Test::refusedForItsArguments);
        s.says("A refused call changes nothing", Boundary02Test::refusedForWantOfRoom);
        s.says("A refused call changes nothing", Boundary02Test::refusedWhenSealed);
        s.says("On success the instruction is stored at the next position of the procedure", Boundary02Test::nextPosition);
        s.says("the procedure and program counts grow by one", Boundary02Test::countsGrowByOne);
        s.says("the answer is the position of the new instruction in its procedure (0..7)", Boundary02Test::answersThePosition);
        s.says("Nothing else changes: entries", Boundary02Test::entriesUntouched);
        s.says("other procedures", Boundary02Test::otherProceduresUntouched);
        s.says("and the sealed state are untouched", Boundary02Test::notSealedByIt);
    }

    private static void appends(Due due) {
        LockLevelTypes x = new LockLevelTypes(8, 2);
        for (int i = 0; i < 8; i++) {
            due.same("emit in 0", x.emit(0, 1, i), i);
            due.same("emit in 1", x.emit(1, 1, 7 - i), i);
        }
        x.check();
        for (int i = 0; i < 4; i++) {
            x.step(0);
            x.step(1);
            due.same("holder(" + i + ")", x.holder(i), 0);
            due.same("holder(" + (7 - i) + ")", x.holder(7 - i), 1);
        }
    }

    private static LockLevelTypes full() {
        return Programs.make(2, 4, "A0 A1 A0 R0 R0 R1 C4 N", "A1 N N R1 A0 R0 A1 A0", "R1 A1 R1 N A1 C4 N N",
            "A0 N N N N N R0", "C7");
    }

    private static void orderOfTheTests(Due due) {
        LockLevelTypes x = full();
        due.same("all four wrong", x.emit(8, 4, 99), PROC);
        due.same("procedure and opcode", x.emit(-1, -1, 0), PROC);
        due.same("procedure and argument", x.emit(8, 1, 2), PROC);
        due.same("procedure, and no room", x.emit(8, 0, 0), PROC);
        due.same("opcode and argument", x.emit(4, 4, 99), OP);
        due.same("opcode, and no room in the procedure", x.emit(0, -1, 0), OP);
        due.same("opcode, and no room in the program", x.emit(7, 4, 0), OP);
        due.same("lock, and no room in the procedure", x.emit(0, 1, 2), ARG);
        due.same("lock, and no room in the program", x.emit(7, 2, -1), ARG);
        due.same("call, and no room in the procedure", x.emit(0, 3, 0), ARG);
        due.same("call, and no room in the program", x.emit(6, 3, 6), ARG);
        due.same("no room alone", x.emit(0, 1, 1), FULL);
        due.same("no room alone", x.emit(6, 3, 7), FULL);
        x.check();
        due.same("sealed, and all four wrong", x.emit(8, 4, 99), SEALED);
        due.same("sealed, and the procedure", x.emit(-1, 0, 0), SEALED);
        due.same("sealed, and the opcode", x.emit(5, 4, 0), SEALED);
        due.same("sealed, and the argument", x.emit(5, 1, 2), SEALED);
        due.same("sealed, and no room", x.emit(0, 0, 0), SEALED);
        due.same("sealed alone", Programs.sealed(2, 1).emit(0, 0, 0), SEALED);
    }

    private static void sealed(Due due) {
        States.sealed().forEach((name, state) -> {
            LockLevelTypes x = state.get();
            for (int proc : Programs.NUMBERS) {
                for (int op : Programs.NUMBERS) {
                    due.same("emit(" + proc + ", " + op + ", 0), " + name, x.emit(proc, op, 0), SEALED);
                    due.same("emit(0, " + op + ", " + proc + "), " + name, x.emit(0, op, proc), SEALED);
                }
            }
        });
    }

    private static void badProcedure(Due due) {
        for (int op = 0; op <= 3; op++) {
            for (int proc : Programs.NUMBERS) {
                int got = new LockLevelTypes(2, 1).emit(proc, op, op == 3 ? 7 : 0);
                boolean inside = proc >= 0 && proc <= 7;
                due.same("emit(" + proc + ", " + op + ", .)", got, !inside ? PROC : op == 3 && proc == 7 ? ARG : 0);
            }
        }
    }

    private static void badOpcode(Due due) {
        for (int proc = 0; proc < 7; proc++) {
            for (int op : Programs.NUMBERS) {
                int got = new LockLevelTypes(8, 1).emit(proc, op, 7);
                due.same("emit(" + proc + ", " + op + ", 7)", got, op >= 0 && op <= 3 ? 0 : OP);
            }
        }
    }

    private static void badLock(Due due) {
        for (int locks = 2; locks <= 8; locks++) {
            for (int op = 1; op <= 2; op++) {
                for (int arg : Programs.NUMBERS) {
                    boolean inside = arg >= 0 && arg <= locks - 1;
                    for (int proc = 0; proc <= 7; proc += 7) {
                        int got = new LockLevelTypes(locks, 1).emit(proc, op, arg);
                        due.same("emit(" + proc + ", " + op + ", " + arg + ") of " + locks, got, inside ? 0 : ARG);
                    }
                }
            }
        }
    }

    private static void badCall(Due due) {
        for (int locks = 2; locks <= 8; locks += 6) {
            for (int proc = 0; proc <= 7; proc++) {
                for (int arg : Programs.NUMBERS) {
                    boolean inside = arg >= proc + 1 && arg <= 7;
                    int got = new LockLevelTypes(locks, 1).emit(proc, 3, arg);
                    due.same("emit(" + proc + ", 3, " + arg + ") of " + locks, got, inside ? 0 : ARG);
                }
            }
        }
    }

    private static void nopTakesAnyArgument(Due due) {
        for (int proc = 0; proc <= 7; proc++) {
            for (int arg : Programs.NUMBERS) {
                due.same("emit(" + proc + ", 0, " + arg + ")", new LockLevelTypes(2, 1).emit(proc, 0, arg), 0);
            }
        }
    }

    /** The stored argument cannot be seen: a NOP must behave the same whatever it was given. */
    private static void nopArgumentIsForgotten(Due due) {
        for (int arg : Programs.NUMBERS) {
            States.alike(due, "NOP with " + arg, () -> nopsWith(arg), () -> nopsWith(0));
        }
    }

    private static LockLevelTypes nopsWith(int arg) {
        LockLevelTypes x = Programs.make(8, 2, "A0 A1 A2 A3 A4 A5 A6 A7", "A7 R7");
        x.emit(1, 0, arg);
        x.emit(1, 0, arg);
        return x;
    }

    private static void callInSeven(Due due) {
        LockLevelTypes fullProcedure = Programs.make(2, 1, "", "", "", "", "", "", "", "N N N N N N N N");
        LockLevelTypes[] objects = {new LockLevelTypes(2, 1), new LockLevelTypes(8, 4), fullProcedure, full()};
        for (LockLevelTypes x : objects) {
            for (int arg : Programs.NUMBERS) {
                due.same("emit(7, 3, " + arg + ")", x.emit(7, 3, arg), ARG);
            }
        }
    }

    private static void callInSevenWhenSealed(Due due) {
        States.sealed().forEach((name, state) -> {
            LockLevelTypes x = state.get();
            for (int arg : Programs.NUMBERS) {
                due.same("emit(7, 3, " + arg + "), " + name, x.emit(7, 3, arg), SEALED);
            }
        });
    }

    private static void fullProcedure(Due due) {
        for (int proc = 0; proc <= 7; proc++) {
            LockLevelTypes x = new LockLevelTypes(2, 1);
            for (int i = 0; i < 8; i++) {
                due.same("emit " + i + " in " + proc, x.emit(proc, 2, 1), i);
            }
            due.same("ninth in " + proc, x.emit(proc, 2, 1), FULL);
            due.same("tenth in " + proc, x.emit(proc, 0, 0), FULL);
            due.same("first beside " + proc, x.emit(7 - proc, 0, 0), 0);
        }
    }

    private static void fullProgram(Due due) {
        LockLevelTypes spread = new LockLevelTypes(2, 1);
        LockLevelTypes packed = new LockLevelTypes(2, 1);
        for (int i = 0; i < 32; i++) {
            due.same("emit " + i + " spread", spread.emit(i % 8, 1, 1), i / 8);
            due.same("emit " + i + " packed", packed.emit(i / 8, 1, 1), i % 8);
        }
        for (int proc = 0; proc <= 7; proc++) {
            due.same("33rd spread, in " + proc, spread.emit(proc, 0, 0), FULL);
            due.same("33rd packed, in " + proc, packed.emit(proc, 0, 0), FULL);
        }
    }

    private static void refusedForItsArguments(Due due) {
        States.changesNothing(due, States.notSealed(), x -> {
            for (int n : Programs.NUMBERS) {
                due.same("bad procedure", x.emit(outside(n, 8), 0, 0), PROC);
                due.same("bad opcode", x.emit(0, outside(n, 4), 0), OP);
                due.same("bad lock", x.emit(7, 1, outside(n, 8)), ARG);
                due.same("bad lock to release", x.emit(0, 2, outside(n, 8)), ARG);
                due.same("bad call", x.emit(7, 3, n), ARG);
            }
        });
    }

    private static int outside(int n, int size) {
        return n < 0 || n >= size ? n : n + size;
    }

    private static void refusedForWantOfRoom(Due due) {
        States.alike(due, "full program", () -> {
            LockLevelTypes x = full();
            for (int proc = 0; proc <= 7; proc++) {
                due.same("emit in " + proc + " of a full program", x.emit(proc, 2, 1), FULL);
            }
            return x;
        }, Boundary02Test::full);
        States.alike(due, "full procedure", () -> {
            LockLevelTypes x = fullProcedures();
            for (int i = 0; i < 40; i++) {
                due.same("emit in a full procedure", x.emit(i % 2, 0, 0), FULL);
            }
            return x;
        }, Boundary02Test::fullProcedures);
    }

    private static LockLevelTypes fullProcedures() {
        return Programs.make(2, 2, "A0 A0 A0 R0 R0 R0 A1 A0", "A1 R1 A1 R1 A0 R0 A0 A1");
    }

    private static void refusedWhenSealed(Due due) {
        States.changesNothing(due, States.sealed(), x -> {
            for (int i = 0; i < 32; i++) {
                due.same("emit when sealed", x.emit(i % 8, i / 8, i % 8 + 1), SEALED);
            }
        });
    }

    private static void nextPosition(Due due) {
        LockLevelTypes x = new LockLevelTypes(2, 1);
        int[] ops = {1, 1, 3, 2, 0, 2, 1, 2};
        int[] args = {0, 0, 7, 0, 99, 0, 1, 1};
        for (int i = 0; i < 8; i++) {
            x.emit(0, ops[i], args[i]);
        }
        x.check();
        String[] locks = {"0x1 -1x0", "0x2 -1x0", "0x2 -1x0", "0x1 -1x0", "0x1 -1x0", "-1x0 -1x0", "-1x0 0x1", "-1x0 -1x0"};
        for (int i = 0; i < 8; i++) {
            due.same("framePc", x.framePc(0), i);
            x.step(0);
            due.same("locks after position " + i, Programs.held(x, 0) + " " + Programs.held(x, 1), locks[i]);
        }
    }

    private static void countsGrowByOne(Due due) {
        for (int count = 0; count <= 8; count++) {
            LockLevelTypes x = new LockLevelTypes(2, 1);
            for (int i = 0; i < count; i++) {
                x.emit(0, 0, 0);
            }
            int room = 0;
            for (int i = 0; i < 56; i++) {
                room += x.emit(1 + i / 8, 0, 0) >= 0 ? 1 : 0;
            }
            due.same("room left after " + count, room, 32 - count);
            x.check();
            due.same("soloLength after " + count, x.soloLength(0), count);
        }
    }

    private static void answersThePosition(Due due) {
        LockLevelTypes x = new LockLevelTypes(2, 1);
        int[] lengths = new int[8];
        for (int i = 0; i < 32; i++) {
            int proc = i * 5 % 8;
            due.same("emit " + i, x.emit(proc, i % 3, 1), lengths[proc]++);
        }
        LockLevelTypes last = Programs.make(2, 1, "", "", "", "", "", "", "", "N N N N N N N");
        due.same("the last position", last.emit(7, 1, 0), 7);
    }

    private static void entriesUntouched(Due due) {
        LockLevelTypes x = new LockLevelTypes(2, 4);
        x.setEntry(0, 6);
        x.setEntry(2, 0);
        for (int i = 0; i < 32; i++) {
            x.emit(i / 4, 0, i);
        }
        x.check();
        int[] want = {6, 1, 0, 3};
        for (int thread = 0; thread < 4; thread++) {
            due.same("frameProc(" + thread + ")", x.frameProc(thread), want[thread]);
        }
    }

    private static void otherProceduresUntouched(Due due) {
        for (int proc = 0; proc <= 7; proc++) {
            LockLevelTypes x = new LockLevelTypes(8, 1);
            for (int other = 0; other <= 7; other++) {
                x.emit(other, 1, other);
            }
            for (int i = 1; i <= 8; i++) {
                due.same("emit in " + proc, x.emit(proc, 0, 0), i < 8 ? i : FULL);
            }
            for (int other = 0; other <= 7; other++) {
                due.same("next in " + other + " beside " + proc, x.emit(other, 0, 0), other == proc ? FULL : 1);
            }
        }
        for (int entry = 0; entry <= 7; entry++) {
            LockLevelTypes x = new LockLevelTypes(8, 1);
            for (int i = 0; i < 32; i++) {
                x.emit(i * 3 % 8, 1, i * 3 % 8);
            }
            x.setEntry(0, entry);
            x.check();
            due.same("instructions in " + entry, x.run(0, 100), 4);
            due.same("holdCount(" + entry + ")", x.holdCount(entry), 4);
        }
    }

    private static void notSealedByIt(Due due) {
        LockLevelTypes x = new LockLevelTypes(2, 1);
        for (int i = 0; i < 40; i++) {
            x.emit(i / 8, 0, 0);
            due.no("restart after emit", x.restart());
            due.yes("setEntry after emit", x.setEntry(0, 0));
            due.same("step after emit", x.step(0), LockLevelTypes.STEP_BAD);
        }
        due.same("emit in a full program", x.emit(0, 0, 0), FULL);
        x.check();
        due.same("emit when sealed", x.emit(0, 0, 0), SEALED);
        due.no("setEntry when sealed", x.setEntry(0, 0));
    }
}
