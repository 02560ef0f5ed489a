/**
 * Promises 2 to 37: each argument of each call. The least and the most are taken; what lies beside them, and the least
 * and the most int, are INVALID_ARGUMENT and change nothing, also where the call would be refused otherwise.
 */
public final class ArgumentsTest {
    private static final Check CHECK = new Check();
    private static final Calls CALLS = new Calls(ToolShed.class);

    private static final int[] MEMBER = {0, -1};
    private static final int[] TOOL = {0, -2};
    private static final int[] INDEX = {0, Integer.MAX_VALUE};

    private static final Twins OPEN = new Twins(CHECK, ArgumentsTest::openShed);
    private static final Twins STUCK = new Twins(CHECK, ArgumentsTest::stuckShed);

    public static void main(String[] args) {
        promises2To9();
        promises10To18();
        promises19To26();
        promises27To29();
        promises30To37();
        promise2ValueOfEachSetting();
        promise27BetterIsAtMostTheWear();
        promise33What();
        CHECK.close("ArgumentsTest");
    }

    /** Six members, of whom some have dues open, and seven tools; each call is possible in it with some arguments. */
    private static ToolShed openShed() {
        ToolShed shed = Check.shedOf(6);
        shed.set(6, 60);
        shed.tool(0, 40, 20);
        shed.tool(1, 9, 10);
        shed.tool(1, 9, 30);
        shed.tool(1, 9, 0);
        shed.tool(0, 9, 25);
        shed.tool(1, 9, 5);
        shed.tool(0, 9, 50);
        shed.hang(1, 1, 0);
        shed.borrow(2, 1);
        shed.borrow(3, 1);
        shed.pass(9);
        shed.lose(3);
        shed.lendOut(4, 2, 5, 7);
        shed.propose(5, 100, 5);
        shed.vote(5, 1, 1);
        shed.lendOut(6, 0, 1, 0);
        shed.comeBack(6);
        shed.give(0, 25);
        shed.give(5, 20);
        shed.pass(21);
        Check.type(shed, "s;g0,");
        return shed;
    }

    /** Ten members, of whom 9 is gone, twenty tools, of which 19 is gone, no day left and no room in the text. */
    private static ToolShed stuckShed() {
        ToolShed shed = Check.shedOf(10);
        for (int tool = 0; tool < 20; tool++) {
            shed.tool(1, 3, 10);
        }
        shed.borrow(19, 0);
        shed.lose(19);
        shed.say(19, 1, 0);
        shed.say(19, 2, 0);
        shed.set(0, 0);
        Check.pass(shed, 3000);
        shed.leave(9);
        Check.type(shed, "b19;bbbbbbbbbbbbbbbbbbbbbbbbbbbbbbbbbbbbbbbbbbbbbbbbbbbbbbbbb");
        return shed;
    }

    private static int[] of(int... numbers) {
        return numbers;
    }

    private static void promises2To9() {
        dueRanges(2, "set", of(0, 20), of(0, 6));
        dueRanges(4, "away", of(2, 1), MEMBER, of(0, 1));
        dueRangesWhenStuck(4, "away", Check.NOT_POSSIBLE, of(9, 1), MEMBER, of(0, 1));
        dueRanges(5, "leave", of(5), MEMBER);
        dueRangesWhenStuck(5, "leave", Check.NOT_POSSIBLE, of(9), MEMBER);
        dueRanges(6, "give", of(0, 1), MEMBER, of(1, 400));
        dueRangesWhenStuck(6, "give", Check.NOT_POSSIBLE, of(9, 1), MEMBER, of(1, 400));
        dueRanges(7, "memberOf", of(0, 13), MEMBER, of(0, 13));
        dueRangesWhenStuck(7, "memberOf", Check.NOT_FOUND, of(9, 13), MEMBER, of(0, 13));
        dueRanges(8, "account", of(1), of(1, 11));
        dueRanges(9, "debtorAt", of(0), INDEX);
        dueRangesWhenStuck(9, "debtorAt", Check.NOT_FOUND, of(1), INDEX);
    }

    private static void promises10To18() {
        dueRanges(10, "tool", of(0, 1, 0), of(0, 1), of(1, 400), of(0, 50));
        dueRangesWhenStuck(10, "tool", Check.LIMIT, of(0, 1, 0), of(0, 1), of(1, 400), of(0, 50));
        dueRanges(11, "hang", of(0, 0, 0), TOOL, of(0, 2), of(0, 3));
        dueRangesWhenStuck(11, "hang", Check.NOT_POSSIBLE, of(19, 1, 0), TOOL, of(0, 2), of(0, 3));
        dueRanges(12, "borrow", of(0, 0), TOOL, MEMBER);
        dueRangesWhenStuck(12, "borrow", Check.NOT_POSSIBLE, of(19, 9), TOOL, MEMBER);
        dueRanges(13, "giveBack", of(2), TOOL);
        dueRangesWhenStuck(13, "giveBack", Check.NOT_POSSIBLE, of(19), TOOL);
        dueRanges(14, "toolOf", of(0, 0), TOOL, of(0, 8));
        dueRangesWhenStuck(14, "toolOf", Check.NOT_FOUND, of(19, 4), TOOL, of(0, 8));
        dueRanges(15, "bits", of(0), TOOL);
        dueRanges(16, "dullBehind", of(0, 1), TOOL, of(1, 200));
        dueRangesWhenStuck(16, "dullBehind", Check.NOT_POSSIBLE, of(19, 1), TOOL, of(1, 200));
        dueRanges(17, "mean", of(0), of(0, 1));
        dueRangesWhenStuck(17, "mean", Check.NOT_FOUND, of(0), of(0, 1));
        dueRanges(18, "hookAt", of(1, 0), of(0, 2), of(0, 3));
        dueRangesWhenStuck(18, "hookAt", Check.NOT_FOUND, of(0, 0), of(0, 2), of(0, 3));
    }

    private static void promises19To26() {
        dueRanges(20, "swap", of(4, 5), MEMBER, MEMBER);
        dueRangesWhenStuck(20, "swap", Check.NOT_POSSIBLE, of(9, 8), MEMBER, MEMBER);
        dueRanges(21, "turnAt", of(0), INDEX);
        dueRangesWhenStuck(21, "turnAt", Check.NOT_FOUND, of(9), INDEX);
        dueRanges(22, "dullAt", of(0), INDEX);
        dueRangesWhenStuck(22, "dullAt", Check.NOT_FOUND, of(0), INDEX);
        dueRanges(23, "lose", of(2), TOOL);
        dueRangesWhenStuck(23, "lose", Check.NOT_POSSIBLE, of(19), TOOL);
        dueRanges(24, "say", of(3, 0, 0), TOOL, MEMBER, of(0, 2));
        dueRangesWhenStuck(24, "say", Check.NOT_POSSIBLE, of(19, 9, 0), TOOL, MEMBER, of(0, 2));
        dueRanges(25, "find", of(3), TOOL);
        dueRangesWhenStuck(25, "find", Check.NOT_POSSIBLE, of(19), TOOL);
        dueRanges(26, "panelAt", of(3, 0, 0), TOOL, of(0, 2), of(0, 1));
        dueRangesWhenStuck(26, "panelAt", Check.NOT_FOUND, of(19, 0, 0), TOOL, of(0, 2), of(0, 1));
    }

    private static void promises27To29() {
        dueRanges(27, "propose", of(0, 1, 1), TOOL, of(1, 400));
        dueRangesWhenStuck(27, "propose", Check.NOT_POSSIBLE, of(19, 1, 1), TOOL, of(1, 400), of(1, 10));
        dueRanges(28, "vote", of(5, 0, 1), TOOL, MEMBER, of(0, 1));
        dueRangesWhenStuck(28, "vote", Check.NOT_POSSIBLE, of(19, 9, 1), TOOL, MEMBER, of(0, 1));
        dueRanges(29, "proposalOf", of(5, 0), TOOL, of(0, 4));
        dueRangesWhenStuck(29, "proposalOf", Check.NOT_FOUND, of(19, 0), TOOL, of(0, 4));
    }

    private static void promises30To37() {
        dueRanges(30, "lendOut", of(0, 0, 1, 0), TOOL, of(0, 3), of(1, 60), of(0, 40));
        dueRangesWhenStuck(30, "lendOut", Check.NOT_POSSIBLE, of(19, 0, 1, 0), TOOL, of(0, 3), of(1, 60), of(0, 40));
        dueRanges(31, "comeBack", of(4), TOOL);
        dueRangesWhenStuck(31, "comeBack", Check.NOT_POSSIBLE, of(19), TOOL);
        dueRanges(32, "pass", of(1), of(1, 60));
        dueRangesWhenStuck(32, "pass", Check.LIMIT, of(1), of(1, 60));
        dueRanges(35, "type", of(32), of(32, 126));
        dueRangesWhenStuck(35, "type", Check.LIMIT, of(32), of(32, 126));
        dueRanges(37, "fault", of(0), of(0, 1));
        Twins empty = new Twins(CHECK, ToolShed::new);
        for (int what : wrongOnes(of(0, 1))) {
            empty.dueInvalid("37: of an empty text, " + Calls.told("fault", what), shed -> shed.fault(what));
        }
    }

    /** The call is possible with these arguments, and takes each one's range. */
    private static void dueRanges(int promise, String name, int[] good, int[]... ranges) {
        int answer = CALLS.answer(openShed(), name, good);
        CHECK.due(promise + ": possible is " + Calls.told(name, good), 1, answer >= 0 ? 1 : 0);
        dueEachRange(promise, OPEN, name, good, ranges, 6, 7);
    }

    /** The call is refused with this error, unless an argument is out of its range. */
    private static void dueRangesWhenStuck(int promise, String name, int error, int[] stuck, int[]... ranges) {
        STUCK.dueUnchanged(promise + ": stuck, " + Calls.told(name, stuck), error,
                shed -> CALLS.answer(shed, name, stuck));
        dueEachRange(promise, STUCK, name, stuck, ranges, 10, 20);
    }

    private static void dueEachRange(int promise, Twins twins, String name, int[] start, int[][] ranges, int members,
            int tools) {
        for (int place = 0; place < ranges.length; place++) {
            int[] range = ranges[place];
            if (range == MEMBER || range == TOOL) {
                range = of(0, (range == MEMBER ? members : tools) - 1);
            }
            for (int end : range) {
                int[] arguments = with(start, place, end);
                int answer = CALLS.answer(twins == OPEN ? openShed() : stuckShed(), name, arguments);
                CHECK.due(promise + ": in range is " + Calls.told(name, arguments), 0,
                        answer == Check.INVALID && !isSwapOfOne(name, arguments) ? 1 : 0);
            }
            for (int wrong : wrongOnes(range)) {
                int[] arguments = with(start, place, wrong);
                twins.dueInvalid(promise + ": " + Calls.told(name, arguments),
                        shed -> CALLS.answer(shed, name, arguments));
            }
        }
    }

    /** At the end of a range both of swap() may be the same, which is refused by itself. */
    private static boolean isSwapOfOne(String name, int[] arguments) {
        return name.equals("swap") && arguments[0] == arguments[1];
    }

    private static int[] with(int[] arguments, int place, int value) {
        int[] changed = arguments.clone();
        changed[place] = value;
        return changed;
    }

    private static int[] wrongOnes(int[] range) {
        if (range[1] == Integer.MAX_VALUE) {
            return of(range[0] - 1, Integer.MIN_VALUE);
        }
        return of(range[0] - 1, range[1] + 1, Integer.MIN_VALUE, Integer.MAX_VALUE);
    }

    private static void promise2ValueOfEachSetting() {
        int[][] ranges = {{0, 400}, {1, 60}, {0, 20}, {0, 40}, {0, 1000}, {0, 100}, {1, 60}};
        for (int setting = 0; setting < ranges.length; setting++) {
            int what = setting;
            for (int end : ranges[what]) {
                CHECK.due("2: taken by setting " + what, 1, openShed().set(what, end) >= 0 ? 1 : 0);
            }
            for (int wrong : wrongOnes(ranges[what])) {
                OPEN.dueInvalid("2: " + Calls.told("set", what, wrong), shed -> shed.set(what, wrong));
            }
        }
    }

    private static void promise27BetterIsAtMostTheWear() {
        for (int wear = 1; wear <= 50; wear += 7) {
            int[] end = {1, wear};
            for (int better : end) {
                CHECK.due("27: propose by " + better + " of " + wear, 10, shedWithWear(wear).propose(0, 1, better));
            }
        }
        for (int wear = 0; wear <= 50; wear += 10) {
            int least = wear;
            Twins twins = new Twins(CHECK, () -> shedWithWear(least));
            for (int wrong : of(0, wear + 1, Integer.MIN_VALUE, Integer.MAX_VALUE)) {
                twins.dueInvalid("27: propose by " + wrong + " of " + wear, shed -> shed.propose(0, 1, wrong));
            }
        }
    }

    private static ToolShed shedWithWear(int wear) {
        ToolShed shed = Check.shedOf(1);
        shed.tool(1, 1, wear);
        return shed;
    }

    private static void promise33What() {
        for (int what : of(0, 11, 20, 26)) {
            CHECK.due("33: taken is count(" + what + ")", 1, openShed().count(what) >= 0 ? 1 : 0);
        }
        for (int what : of(-1, 12, 19, 27, Integer.MIN_VALUE, Integer.MAX_VALUE)) {
            OPEN.dueInvalid("33: count(" + what + ")", shed -> shed.count(what));
        }
    }
}
