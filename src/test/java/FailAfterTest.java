/** Promise 9: what numbers it takes, and when the power fails then. */
public final class FailAfterTest {
    public static void main(String[] args) {
        belowZero();
        belowZeroLeavesWhatIsToCome();
        zero();
        theMostNumber();
        eachNumber();
        theLatestCounts();
        overSeveralCommits();
        overACommitAheadOfACall();
        onlyOnce();
        whileThePowerIsOff();
        Check.end();
    }

    private static LogFs withThreePending() {
        LogFs x = new LogFs();
        x.make(0, Check.name("f"), false);
        return x;
    }

    /** "false if n is below 0." */
    private static void belowZero() {
        int[] none = {-1, -2, -100, Integer.MIN_VALUE};
        for (int n : none) {
            LogFs x = withThreePending();
            Check.no("failAfter(" + n + ")", x.failAfter(n));
            Check.is("sync", x.sync(), 8);
        }
    }

    /** "Calls that answer false or NONE change nothing". */
    private static void belowZeroLeavesWhatIsToCome() {
        LogFs x = withThreePending();
        Check.yes("failAfter(2)", x.failAfter(2));
        Check.no("failAfter(-1)", x.failAfter(-1));
        Check.powerFails("what was to come still comes", x::sync);
        Check.is("writes", x.count(3), 2);
    }

    /** "The power fails when n more writes were done": with 0 at the next write, not ahead of it. */
    private static void zero() {
        LogFs x = withThreePending();
        Check.yes("failAfter(0)", x.failAfter(0));
        Check.is("the power is on", x.count(5), 0);
        Check.is("find", x.find(0, Check.name("f")), 1);
        Check.is("fill", x.fill(1, 0, 1, 1), 1);
        Check.powerFails("sync", x::sync);
        Check.is("the power is off", x.count(5), 1);
        Check.is("writes", x.count(3), 0);
    }

    private static void theMostNumber() {
        LogFs x = withThreePending();
        Check.yes("failAfter", x.failAfter(Integer.MAX_VALUE));
        Check.is("sync", x.sync(), 8);
        x.fill(1, 0, 1, 1);
        Check.yes("failAfter again, with writes behind it", x.failAfter(Integer.MAX_VALUE));
        Check.is("sync", x.sync(), 8);
    }

    /** "The power fails when n more writes were done: true". */
    private static void eachNumber() {
        for (int n = 0; n < 8; n++) {
            LogFs x = withThreePending();
            Check.yes("failAfter(" + n + ")", x.failAfter(n));
            Check.powerFails("sync", x::sync);
            Check.is("writes", x.count(3), n);
            Check.is("the power is off", x.count(5), 1);
        }
    }

    private static void theLatestCounts() {
        LogFs x = withThreePending();
        x.failAfter(0);
        Check.yes("failAfter(5)", x.failAfter(5));
        Check.powerFails("sync", x::sync);
        Check.is("writes", x.count(3), 5);
        LogFs y = withThreePending();
        y.failAfter(5);
        y.failAfter(1);
        Check.powerFails("sync", y::sync);
        Check.is("writes", y.count(3), 1);
    }

    /** "when n more writes were done", of one commit or of several. */
    private static void overSeveralCommits() {
        LogFs x = withThreePending();
        x.failAfter(8);
        Check.is("sync", x.sync(), 8);
        Check.is("the power is on", x.count(5), 0);
        x.fill(1, 0, 1, 1);
        Check.powerFails("the next write", x::sync);
        Check.is("writes", x.count(3), 8);
        LogFs y = withThreePending();
        y.failAfter(9);
        y.sync();
        y.fill(1, 0, 1, 1);
        Check.powerFails("the next write but one", y::sync);
        Check.is("writes", y.count(3), 9);
    }

    private static void overACommitAheadOfACall() {
        LogFs x = Disks.withPending(11);
        x.failAfter(25);
        Check.is("fill", x.fill(1, 0, 1, 1), 960);
        Check.powerFails("sync", x::sync);
        x.mount();
        Check.is("what was ahead of the call is whole", x.read(1, 0), 9);
    }

    /** A failure that came is no longer to come. */
    private static void onlyOnce() {
        LogFs x = withThreePending();
        x.failAfter(0);
        Check.powerFails("sync", x::sync);
        x.mount();
        x.make(0, Check.name("f"), false);
        Check.is("sync", x.sync(), 8);
    }

    /** It has no exception, so that it can tell when a mount fails. */
    private static void whileThePowerIsOff() {
        LogFs x = withThreePending();
        x.failAfter(4);
        Check.powerFails("sync", x::sync);
        Check.yes("failAfter(2)", x.failAfter(2));
        Check.no("failAfter(-2)", x.failAfter(-2));
        Check.is("the power is off", x.count(5), 1);
        Check.powerFails("mount", x::mount);
        Check.is("writes", x.count(3), 6);
    }
}
