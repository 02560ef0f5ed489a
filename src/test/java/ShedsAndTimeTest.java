/** Promises 30 to 34: other sheds, time, numbers, undo. */
public final class ShedsAndTimeTest {
    private static final Check CHECK = new Check();

    public static void main(String[] args) {
        promise30LendOut();
        promise31ComeBack();
        promise31FeesAreShared();
        promise32Pass();
        promise32Dues();
        promise33Count();
        promise34Undo();
        promise34BringsBackWhatWasOverwritten();
        promise34KeepsTheText();
        promise34EveryChange();
        CHECK.close("ShedsAndTimeTest");
    }

    private static void promise30LendOut() {
        ToolShed shed = new ToolShed();
        shed.tool(0, 5, 10);
        shed.tool(0, 5, 10);
        shed.tool(0, 5, 10);
        shed.pass(2);
        CHECK.due("without members, the least", 3, shed.lendOut(0, 0, 1, 0));
        CHECK.due("the most", 62, shed.lendOut(1, 3, 60, 40));
        CHECK.due("it is at another shed", 3, shed.toolOf(1, 3));
        CHECK.due("at this one", 3, shed.toolOf(1, 4));
        CHECK.due("it counts", 1, shed.toolOf(1, 7));
        CHECK.due("lent already", Check.NOT_POSSIBLE, shed.lendOut(1, 3, 60, 40));
        CHECK.due("lent already, and a wrong argument", Check.INVALID, shed.lendOut(1, 4, 60, 40));
        CHECK.due("lendOut(3, 0, 1, 0)", Check.INVALID, shed.lendOut(3, 0, 1, 0));
        CHECK.due("lendOut(-1, 0, 1, 0)", Check.INVALID, shed.lendOut(-1, 0, 1, 0));
        CHECK.due("lendOut(2, 4, 1, 0)", Check.INVALID, shed.lendOut(2, 4, 1, 0));
        CHECK.due("lendOut(2, -1, 1, 0)", Check.INVALID, shed.lendOut(2, -1, 1, 0));
        CHECK.due("lendOut(2, 0, 0, 0)", Check.INVALID, shed.lendOut(2, 0, 0, 0));
        CHECK.due("lendOut(2, 0, 61, 0)", Check.INVALID, shed.lendOut(2, 0, 61, 0));
        CHECK.due("lendOut(2, 0, 1, 41)", Check.INVALID, shed.lendOut(2, 0, 1, 41));
        CHECK.due("lendOut(2, 0, 1, -1)", Check.INVALID, shed.lendOut(2, 0, 1, -1));
        shed.member();
        shed.borrow(2, 0);
        CHECK.due("a member has it", Check.NOT_POSSIBLE, shed.lendOut(2, 0, 1, 0));
    }

    private static void promise31ComeBack() {
        ToolShed shed = new ToolShed();
        shed.tool(0, 5, 10);
        shed.lendOut(0, 0, 4, 7);
        CHECK.due("no member", Check.NOT_POSSIBLE, shed.comeBack(0));
        shed.member();
        CHECK.due("on the same day, one day", 7, shed.comeBack(0));
        CHECK.due("it is in the shed", 0, shed.toolOf(0, 3));
        CHECK.due("it is dull", 900, shed.toolOf(0, 6));
        CHECK.due("it is back", Check.NOT_POSSIBLE, shed.comeBack(0));
        shed.lendOut(0, 0, 4, 7);
        shed.pass(4);
        CHECK.due("the agreed days", 28, shed.comeBack(0));
        CHECK.due("dull for four days", 590, shed.toolOf(0, 6));
        shed.lendOut(0, 0, 4, 7);
        shed.pass(5);
        CHECK.due("one day behind them", 42, shed.comeBack(0));
        shed.lendOut(0, 0, 1, 40);
        shed.pass(60);
        CHECK.due("many days behind them", 40 * 119, shed.comeBack(0));
        shed.lendOut(0, 0, 4, 0);
        CHECK.due("no fee", 0, shed.comeBack(0));
        CHECK.due("comeBack(1)", Check.INVALID, shed.comeBack(1));
        CHECK.due("comeBack(-1)", Check.INVALID, shed.comeBack(-1));
        shed.give(0, 60);
        shed.borrow(0, 0);
        CHECK.due("a member has it", Check.NOT_POSSIBLE, shed.comeBack(0));
    }

    private static void promise31FeesAreShared() {
        ToolShed shed = Check.shedOf(4);
        shed.tool(0, 5, 0);
        shed.leave(1);
        shed.away(2, 1);
        shed.pass(30);
        shed.lendOut(0, 0, 1, 40);
        shed.pass(2);
        CHECK.due("three times the fee", 120, shed.comeBack(0));
        CHECK.dueText("a share pays the dues", "0 0 40 20 0 20", Check.numbers(shed, 0, 0, 5));
        CHECK.dueText("an away one shares", "1 0 40 20 0 20", Check.numbers(shed, 2, 0, 5));
        CHECK.dueText("a gone one does not", "2 0 0 0 0 0", Check.numbers(shed, 1, 0, 5));
        shed.lendOut(0, 0, 1, 32);
        shed.comeBack(0);
        CHECK.due("one more", 51, shed.memberOf(0, 2));
        CHECK.due("one more passes the gone one", 51, shed.memberOf(2, 2));
        CHECK.due("the last one", 50, shed.memberOf(3, 2));
        CHECK.due("pointer", 3, shed.account(11));
    }

    private static void promise32Pass() {
        ToolShed shed = new ToolShed();
        CHECK.due("pass(0)", Check.INVALID, shed.pass(0));
        CHECK.due("pass(-1)", Check.INVALID, shed.pass(-1));
        CHECK.due("pass(61)", Check.INVALID, shed.pass(61));
        CHECK.due("pass(most int)", Check.INVALID, shed.pass(Integer.MAX_VALUE));
        CHECK.due("the least", 1, shed.pass(1));
        CHECK.due("the most", 61, shed.pass(60));
        for (int day = 121; day < 3000; day += 60) {
            CHECK.due("pass(60)", day, shed.pass(60));
        }
        CHECK.due("the day", 2941, shed.count(9));
        CHECK.due("one too many", Check.LIMIT, shed.pass(60));
        CHECK.due("it stays", 2941, shed.count(9));
        CHECK.due("the last day", 3000, shed.pass(59));
        CHECK.due("behind it", Check.LIMIT, shed.pass(1));
        CHECK.due("behind it, and a wrong argument", Check.INVALID, shed.pass(0));
    }

    private static void promise32Dues() {
        ToolShed shed = Check.shedOf(3);
        shed.give(0, 50);
        shed.away(1, 1);
        shed.leave(2);
        shed.pass(29);
        CHECK.due("no dues so far", 0, shed.account(5) + shed.account(8));
        shed.pass(1);
        CHECK.dueText("credit pays", "30 0 20 0 0 0", Check.numbers(shed, 0, 3, 8));
        CHECK.due("an away one is charged", 20, shed.memberOf(1, 8));
        CHECK.due("a gone one is not", 0, shed.memberOf(2, 8));
        shed.pass(29);
        CHECK.due("no dues between", 20, shed.memberOf(1, 8));
        shed.set(0, 45);
        shed.pass(60);
        CHECK.due("two months, as it is set then", 110, shed.memberOf(1, 8));
        CHECK.dueText("part of it is open", "0 0 50 0 0 60", Check.numbers(shed, 0, 3, 8));
        shed.set(0, 0);
        shed.pass(60);
        CHECK.due("free months", 110, shed.memberOf(1, 8));
    }

    private static void promise33Count() {
        ToolShed shed = Check.shedOf(9);
        for (int tool = 0; tool < 12; tool++) {
            shed.tool(tool % 2, 3, 10);
        }
        shed.leave(8);
        shed.away(7, 1);
        shed.away(6, 1);
        shed.borrow(0, 0);
        shed.borrow(1, 0);
        shed.borrow(2, 0);
        shed.borrow(3, 5);
        shed.borrow(4, 5);
        shed.lose(3);
        shed.lose(4);
        shed.lose(0);
        shed.say(0, shed.panelAt(0, 0, 0), 0);
        shed.say(0, shed.panelAt(0, 1, 0), 0);
        for (int tool = 8; tool < 11; tool++) {
            shed.lendOut(tool, 0, 1, 1);
        }
        shed.propose(5, 1, 1);
        shed.propose(6, 1, 1);
        shed.propose(7, 1, 1);
        shed.propose(8, 1, 1);
        shed.pass(2);
        Check.type(shed, "hello");
        int[] due = {6, 2, 1, 4, 2, 2, 3, 1, 4, 2, 4, 5};
        for (int what = 0; what < due.length; what++) {
            CHECK.due("count(" + what + ")", due[what], shed.count(what));
        }
        int[] settings = {20, 7, 1, 2, 600, 80, 10};
        for (int what = 0; what < settings.length; what++) {
            CHECK.due("count(" + (20 + what) + ")", settings[what], shed.count(20 + what));
        }
        int[] wrong = {-1, 12, 19, 27, Integer.MIN_VALUE, Integer.MAX_VALUE};
        for (int what : wrong) {
            CHECK.due("count(" + what + ")", Check.INVALID, shed.count(what));
        }
    }

    private static void promise34Undo() {
        ToolShed shed = new ToolShed();
        CHECK.due("nothing to undo", Check.NOT_POSSIBLE, shed.undo());
        for (int i = 1; i <= 6; i++) {
            shed.member();
            CHECK.due("states behind " + i, Math.min(i, 4), shed.count(10));
        }
        shed.give(9, 9);
        shed.set(9, 9);
        CHECK.due("errors are no changes", 4, shed.count(10));
        for (int left = 3; left >= 0; left--) {
            CHECK.due("undo()", left, shed.undo());
            CHECK.due("states left", left, shed.count(10));
            CHECK.due("members left", left + 2, shed.count(0));
        }
        CHECK.due("the oldest ones were dropped", Check.NOT_POSSIBLE, shed.undo());
        CHECK.due("nothing changed by it", 2, shed.count(0));
        CHECK.due("the next one joins as number 2", 2, shed.member());
        CHECK.due("a change is recorded again", 1, shed.count(10));
        CHECK.due("and undone", 0, shed.undo());
    }

    /** A tool's days, fee, hook and panel come back, also when it had others since. */
    private static void promise34BringsBackWhatWasOverwritten() {
        ToolShed lent = Check.shedOf(1);
        lent.tool(0, 5, 10);
        lent.lendOut(0, 1, 4, 7);
        lent.pass(6);
        lent.comeBack(0);
        lent.lendOut(0, 2, 9, 3);
        lent.undo();
        lent.undo();
        CHECK.due("the day it was due", 4, lent.toolOf(0, 5));
        CHECK.due("the shed it was at", 1, lent.toolOf(0, 4));
        CHECK.due("days and fee of it", 56, lent.comeBack(0));

        ToolShed hung = Check.shedOf(1);
        hung.tool(0, 5, 10);
        hung.hang(0, 2, 3);
        hung.borrow(0, 0);
        hung.giveBack(0);
        hung.hang(0, 0, 1);
        hung.undo();
        hung.undo();
        hung.undo();
        CHECK.due("the hook it hung on", 23, hung.toolOf(0, 8));

        ToolShed lost = Check.shedOf(7);
        lost.tool(0, 5, 10);
        lost.borrow(0, 0);
        lost.lose(0);
        lost.find(0);
        lost.borrow(0, 0);
        lost.lose(0);
        CHECK.due("another panel", 4, lost.panelAt(0, 0, 0));
        lost.undo();
        lost.undo();
        lost.undo();
        CHECK.due("the first one again", 1, lost.panelAt(0, 0, 0));
        CHECK.due("and its last one", 3, lost.panelAt(0, 2, 0));
    }

    private static void promise34KeepsTheText() {
        ToolShed shed = Check.shedOf(1);
        shed.type('s');
        CHECK.due("typing is no change", 1, shed.count(10));
        shed.set(0, 30);
        shed.type(';');
        shed.undo();
        CHECK.due("the text stays", 2, shed.count(11));
        CHECK.due("the setting does not", 20, shed.count(20));
        shed.clearText();
        CHECK.due("clearing is no change", 1, shed.count(10));
    }

    /** Each kind of change is one state and is undone, asking all that can be asked. */
    private static void promise34EveryChange() {
        Twins busy = new Twins(CHECK, ShedsAndTimeTest::busyShed);
        busy.dueUndone("set", 7, shed -> shed.set(1, 9));
        busy.dueUndone("member", 5, ToolShed::member);
        busy.dueUndone("away", 0, shed -> shed.away(2, 1));
        busy.dueUndone("leave", 0, shed -> shed.leave(4));
        busy.dueUndone("give", 12, shed -> shed.give(0, 9));
        busy.dueUndone("tool", 6, shed -> shed.tool(0, 1, 1));
        busy.dueUndone("hang", 1, shed -> shed.hang(4, 2, 2));
        busy.dueUndone("borrow", 16, shed -> shed.borrow(5, 2));
        busy.dueUndone("giveBack", 2, shed -> shed.giveBack(0));
        busy.dueUndone("sharpen", 4, ToolShed::sharpen);
        busy.dueUndone("swap", 4, shed -> shed.swap(0, 4));
        busy.dueUndone("lose", 1, shed -> shed.lose(0));
        busy.dueUndone("say", 3, shed -> shed.say(1, 2, 0));
        busy.dueUndone("say that decides", 1, shed -> shed.say(1, 2, 1));
        busy.dueUndone("find", 1, shed -> shed.find(1));
        busy.dueUndone("propose", 19, shed -> shed.propose(5, 3, 3));
        busy.dueUndone("vote", 2, shed -> shed.vote(3, 2, 0));
        busy.dueUndone("vote that accepts", 1, shed -> shed.vote(3, 2, 1));
        busy.dueUndone("lendOut", 10, shed -> shed.lendOut(5, 1, 1, 1));
        busy.dueUndone("comeBack", 91, shed -> shed.comeBack(2));
        busy.dueUndone("pass", 64, shed -> shed.pass(55));
        busy.dueUndone("play", 4, ToolShed::play);
    }

    private static ToolShed busyShed() {
        ToolShed shed = Check.shedOf(5);
        for (int tool = 0; tool < 6; tool++) {
            shed.tool(tool % 2, 9, 20);
            shed.hang(tool, tool % 2, tool / 2);
        }
        shed.give(0, 5);
        shed.borrow(0, 0);
        shed.borrow(1, 1);
        shed.lendOut(2, 1, 5, 7);
        shed.propose(3, 10, 10);
        shed.vote(3, 4, 1);
        shed.vote(3, 3, 1);
        shed.borrow(4, 0);
        shed.pass(9);
        shed.giveBack(4);
        shed.lose(1);
        shed.say(1, 0, 1);
        Check.type(shed, "g0,9;s;b0;l5,2;");
        return shed;
    }
}
