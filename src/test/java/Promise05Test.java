/** Promise 5: restart. */
public final class Promise05Test {
    private static final Due due = new Due();

    public static void main(String[] args) {
        notSealed();
        backToTheStart(Programs.make(2, 2, "A0 A1 R1 R0", "A0 A1 R1 R0"));
        backToTheStart(Programs.make(2, 2, "A0 A1 R1 R0", "A1 A0 R0 R1"));
        backToTheStart(Programs.make(8, 4, "A0 A0 C4", "C5 A1", "A7 A7 A7", "", "A6 N", "C6", "C7", "A5 R5"));
        LockLevelTypes tooLong = Programs.make(3, 2, "A0 C5 R0", "A1 N C5 A2");
        Programs.loadLong(tooLong);
        backToTheStart(tooLong);
        fromAChangedEntry();
        due.end();
    }

    private static void notSealed() {
        LockLevelTypes x = Programs.make(2, 2, "A0 R0", "N");
        x.setEntry(1, 0);
        due.no("restart before check", x.restart());
        due.same("frameProc after it", x.frameProc(0), -1);
        due.same("emit after it", x.emit(0, 0, 0), 2);
        due.yes("setEntry after it", x.setEntry(0, 0));
        due.same("check after it", x.check(), LockLevelTypes.ACCEPT);
        due.same("frameProc(1) after it", x.frameProc(1), 0);
        due.same("soloLength after it", x.soloLength(0), 3);
    }

    private static void backToTheStart(LockLevelTypes x) {
        int verdict = x.check();
        String start = Programs.all(x);
        due.yes("restart at the start", x.restart());
        due.same("all after restart at the start", Programs.all(x), start);
        for (String schedule : new String[] {"0", "1", "01", "0101", "0011", "000000001111", "22233", "111100"}) {
            String first = Programs.steps(x, schedule);
            String reached = Programs.all(x);
            due.yes("restart after " + schedule, x.restart());
            due.same("all after restart after " + schedule, Programs.all(x), start);
            due.same("the same steps again", Programs.steps(x, schedule), first);
            due.same("all after the same steps", Programs.all(x), reached);
            x.restart();
        }
        x.run(0xE4E4E4E4, 1024);
        due.yes("restart after a run", x.restart());
        due.yes("restart twice", x.restart());
        due.same("all after restart after a run", Programs.all(x), start);
        due.same("verdict after restart", x.check(), verdict);
        due.same("emit after restart", x.emit(0, 0, 0), LockLevelTypes.ERR_SEALED);
    }

    private static void fromAChangedEntry() {
        LockLevelTypes x = Programs.make(2, 2, "N N", "N", "", "N A1");
        x.setEntry(0, 3);
        x.setEntry(1, 2);
        x.check();
        x.run(0, 2);
        due.same("frameProc at the end", x.frameProc(0), -1);
        due.yes("restart", x.restart());
        due.same("frameProc after restart", x.frameProc(0), 3);
        due.same("framePc after restart", x.framePc(0), 0);
        due.same("empty thread after restart", x.step(1), LockLevelTypes.STEP_DONE);
        due.same("holder after restart", x.holder(1), -1);
    }
}
