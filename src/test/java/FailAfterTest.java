/** Promise 9, and what the power's failure leaves. */
public final class FailAfterTest {
    public static void main(String[] args) {
        wrongNumbers();
        theLatestCounts();
        overSeveralCommits();
        onlyOnce();
        whileThePowerIsOff();
        Check.end();
    }

    private static LogFs withThreePending() {
        LogFs x = new LogFs();
        x.make(0, Check.name("f"), false);
        return x;
    }

    private static void wrongNumbers() {
        LogFs x = withThreePending();
        Check.no("failAfter(-1)", x.failAfter(-1));
        Check.no("failAfter", x.failAfter(Integer.MIN_VALUE));
        Check.is("sync", x.sync(), 8);
        LogFs y = withThreePending();
        Check.yes("failAfter(2)", y.failAfter(2));
        Check.no("failAfter(-1)", y.failAfter(-1));
        Check.powerFails("what was to come still comes", y::sync);
        Check.is("writes", y.count(3), 2);
        LogFs z = withThreePending();
        Check.yes("failAfter", z.failAfter(Integer.MAX_VALUE));
        Check.is("sync", z.sync(), 8);
    }

    private static void theLatestCounts() {
        LogFs x = withThreePending();
        x.failAfter(0);
        Check.yes("failAfter(5)", x.failAfter(5));
        Check.powerFails("sync", x::sync);
        Check.is("writes", x.count(3), 5);
        LogFs y = withThreePending();
        y.failAfter(5);
        y.failAfter(1);
        Check.powerFails("sync", y::sync);
        Check.is("writes", y.count(3), 1);
    }

    private static void overSeveralCommits() {
        LogFs x = withThreePending();
        x.failAfter(8);
        Check.is("sync", x.sync(), 8);
        Check.is("the power is on", x.count(5), 0);
        x.fill(1, 0, 1, 1);
        Check.powerFails("the next write", x::sync);
        Check.is("writes", x.count(3), 8);
        LogFs y = withThreePending();
        y.failAfter(9);
        y.sync();
        y.fill(1, 0, 1, 1);
        Check.powerFails("the next write but one", y::sync);
        Check.is("writes", y.count(3), 9);
    }

    private static void onlyOnce() {
        LogFs x = withThreePending();
        x.failAfter(0);
        Check.powerFails("sync", x::sync);
        x.mount();
        x.make(0, Check.name("f"), false);
        Check.is("sync", x.sync(), 8);
    }

    private static void whileThePowerIsOff() {
        LogFs x = withThreePending();
        x.failAfter(4);
        Check.powerFails("sync", x::sync);
        Check.yes("failAfter(2)", x.failAfter(2));
        Check.no("failAfter(-2)", x.failAfter(-2));
        Check.is("the power is off", x.count(5), 1);
        Check.powerFails("mount", x::mount);
        Check.is("writes", x.count(3), 6);
    }
}
