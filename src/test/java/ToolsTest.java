/** Promises 10 to 18: tools, walls, loans to members. */
public final class ToolsTest {
    private static final Check CHECK = new Check();

    public static void main(String[] args) {
        promise10Tool();
        promise11Hang();
        promise12Borrow();
        promise12WhatStopsALoan();
        promise13GiveBack();
        promise14ToolOf();
        promise15Bits();
        promise16DullBehind();
        promise17Mean();
        promise18HookAt();
        CHECK.close("ToolsTest");
    }

    private static void promise10Tool() {
        ToolShed shed = Check.shedOf(1);
        CHECK.due("tool(2, 1, 0)", Check.INVALID, shed.tool(2, 1, 0));
        CHECK.due("tool(-1, 1, 0)", Check.INVALID, shed.tool(-1, 1, 0));
        CHECK.due("tool(0, 0, 0)", Check.INVALID, shed.tool(0, 0, 0));
        CHECK.due("tool(0, 401, 0)", Check.INVALID, shed.tool(0, 401, 0));
        CHECK.due("tool(0, 1, 51)", Check.INVALID, shed.tool(0, 1, 51));
        CHECK.due("tool(0, 1, -1)", Check.INVALID, shed.tool(0, 1, -1));
        CHECK.due("nothing was added", 0, shed.count(3));
        CHECK.due("the least", 0, shed.tool(0, 1, 0));
        CHECK.due("the most", 1, shed.tool(1, 400, 50));
        CHECK.due("it is in the shed", 0, shed.toolOf(1, 3));
        CHECK.due("it is sharp", 1000, shed.toolOf(1, 6));
        for (int i = 2; i < 20; i++) {
            CHECK.due("tool()", i, shed.tool(1, 5, 5));
        }
        CHECK.due("the 21st", Check.LIMIT, shed.tool(1, 5, 5));
        CHECK.due("the 21st, and a wrong argument", Check.INVALID, shed.tool(1, 5, 51));
        CHECK.due("tools in the shed", 20, shed.count(3));
    }

    private static void promise11Hang() {
        ToolShed shed = Check.shedOf(1);
        for (int i = 0; i < 12; i++) {
            shed.tool(i % 2, 5, 10);
        }
        CHECK.due("a plain one on the wall of cutters", Check.NOT_POSSIBLE, shed.hang(1, 0, 0));
        CHECK.due("a cutter on the wall of plain ones", Check.NOT_POSSIBLE, shed.hang(0, 1, 0));
        CHECK.due("a cutter on its wall", 1, shed.hang(0, 0, 3));
        CHECK.due("a plain one on its wall", 1, shed.hang(1, 1, 3));
        CHECK.due("hangs already", Check.NOT_POSSIBLE, shed.hang(0, 0, 2));
        CHECK.due("the hook is taken", Check.NOT_POSSIBLE, shed.hang(2, 0, 3));
        CHECK.due("a second one", 2, shed.hang(2, 0, 0));
        CHECK.due("any wall", 1, shed.hang(4, 2, 0));
        CHECK.due("any kind", 2, shed.hang(3, 2, 1));
        CHECK.due("the third one", 3, shed.hang(5, 2, 2));
        CHECK.due("the fourth one", 4, shed.hang(6, 2, 3));
        CHECK.due("hang(12, 0, 1)", Check.INVALID, shed.hang(12, 0, 1));
        CHECK.due("hang(-1, 0, 1)", Check.INVALID, shed.hang(-1, 0, 1));
        CHECK.due("hang(8, 3, 1)", Check.INVALID, shed.hang(8, 3, 1));
        CHECK.due("hang(8, -1, 1)", Check.INVALID, shed.hang(8, -1, 1));
        CHECK.due("hang(8, 0, 4)", Check.INVALID, shed.hang(8, 0, 4));
        CHECK.due("hang(8, 0, -1)", Check.INVALID, shed.hang(8, 0, -1));
        shed.borrow(8, 0);
        CHECK.due("a lent one", Check.NOT_POSSIBLE, shed.hang(8, 0, 1));
        shed.lendOut(10, 1, 5, 1);
        CHECK.due("one at another shed", Check.NOT_POSSIBLE, shed.hang(10, 0, 1));
        shed.borrow(0, 0);
        int fresh = shed.tool(0, 5, 10);
        CHECK.due("a hook is free again", 2, shed.hang(fresh, 0, 3));
        shed.giveBack(0);
        CHECK.due("what comes back does not hang", 3, shed.hang(0, 0, 1));
    }

    private static void promise12Borrow() {
        ToolShed shed = Check.shedOf(2);
        shed.tool(0, 5, 10);
        shed.tool(1, 5, 10);
        shed.pass(3);
        CHECK.due("due behind seven days", 10, shed.borrow(0, 1));
        CHECK.due("it is with a member", 1, shed.toolOf(0, 3));
        CHECK.due("with this one", 1, shed.toolOf(0, 4));
        CHECK.due("it counts", 1, shed.toolOf(0, 7));
        shed.set(1, 60);
        CHECK.due("the due day stays", 10, shed.toolOf(0, 5));
        CHECK.due("the days of a loan are set", 63, shed.borrow(1, 1));
        CHECK.due("borrow(2, 0)", Check.INVALID, shed.borrow(2, 0));
        CHECK.due("borrow(-1, 0)", Check.INVALID, shed.borrow(-1, 0));
        CHECK.due("borrow(0, 2)", Check.INVALID, shed.borrow(0, 2));
        CHECK.due("borrow(0, -1)", Check.INVALID, shed.borrow(0, -1));
        CHECK.due("lent already", Check.NOT_POSSIBLE, shed.borrow(0, 0));
    }

    private static void promise12WhatStopsALoan() {
        ToolShed shed = Check.shedOf(6);
        for (int i = 0; i < 8; i++) {
            shed.tool(1, 5, 10);
        }
        shed.away(1, 1);
        CHECK.due("an away one", Check.NOT_POSSIBLE, shed.borrow(0, 1));
        shed.leave(2);
        CHECK.due("a gone one", Check.NOT_POSSIBLE, shed.borrow(0, 2));
        shed.borrow(0, 0);
        shed.borrow(1, 0);
        CHECK.due("the third one", 7, shed.borrow(2, 0));
        CHECK.due("the fourth one", Check.NOT_POSSIBLE, shed.borrow(3, 0));
        shed.lose(0);
        CHECK.due("lost ones included", Check.NOT_POSSIBLE, shed.borrow(3, 0));
        shed.find(0);
        CHECK.due("one is found", 7, shed.borrow(3, 0));
        shed.lendOut(4, 0, 1, 0);
        CHECK.due("one at another shed", Check.NOT_POSSIBLE, shed.borrow(4, 3));
        shed.lose(1);
        CHECK.due("a lost one", Check.NOT_POSSIBLE, shed.borrow(1, 3));
        shed.say(1, 3, 1);
        shed.say(1, 4, 1);
        CHECK.due("a gone tool", Check.NOT_POSSIBLE, shed.borrow(1, 3));
        shed.give(3, 1);
        CHECK.due("something open", Check.NOT_POSSIBLE, shed.borrow(5, 4));
        shed.give(4, 1);
        CHECK.due("nothing open, no credit", 7, shed.borrow(5, 4));
    }

    private static void promise13GiveBack() {
        ToolShed shed = Check.shedOf(4);
        shed.tool(0, 5, 10);
        shed.tool(0, 5, 0);
        shed.borrow(0, 0);
        shed.pass(7);
        CHECK.due("on the due day", 0, shed.giveBack(0));
        CHECK.due("dull for seven days", 478, shed.toolOf(0, 6));
        CHECK.due("in the shed", 0, shed.toolOf(0, 3));
        CHECK.due("nobody has it", Check.NOT_POSSIBLE, shed.giveBack(0));
        shed.borrow(0, 0);
        CHECK.due("on the same day", 0, shed.giveBack(0));
        CHECK.due("dull for one day at least", 430, shed.toolOf(0, 6));
        shed.give(1, 6);
        shed.borrow(0, 1);
        shed.pass(9);
        shed.set(2, 5);
        CHECK.due("two days late, as it is set then", 10, shed.giveBack(0));
        CHECK.dueText("credit pays, the rest is open", "0 0 6 0 0 4 0", Check.numbers(shed, 1, 4, 10));
        shed.give(1, 4);
        shed.borrow(1, 1);
        shed.pass(8);
        shed.set(2, 0);
        CHECK.due("late, but free", 0, shed.giveBack(1));
        shed.lendOut(1, 0, 3, 0);
        CHECK.due("at another shed", Check.NOT_POSSIBLE, shed.giveBack(1));
        shed.borrow(0, 0);
        shed.lose(0);
        CHECK.due("lost", Check.NOT_POSSIBLE, shed.giveBack(0));
        CHECK.due("giveBack(2)", Check.INVALID, shed.giveBack(2));
        CHECK.due("giveBack(-1)", Check.INVALID, shed.giveBack(-1));
        dullsByTheWearThen();
    }

    private static void dullsByTheWearThen() {
        ToolShed shed = Check.shedOf(1);
        shed.tool(0, 5, 50);
        shed.borrow(0, 0);
        shed.pass(3);
        shed.propose(0, 1, 40);
        CHECK.due("accepted", 1, shed.vote(0, 0, 1));
        shed.giveBack(0);
        float sharp = 90f / 100f * 90f / 100f * 90f / 100f;
        CHECK.due("each day by the wear at the end", Float.floatToIntBits(sharp), shed.bits(0));
        shed.propose(0, 1, 10);
        shed.vote(0, 0, 1);
        shed.give(0, 2);
        for (int day = 0; day < 9; day++) {
            shed.borrow(0, 0);
            shed.giveBack(0);
            sharp = sharp * 100f / 100f;
            CHECK.due("without wear, in floats all the same", Float.floatToIntBits(sharp), shed.bits(0));
        }
    }

    private static void promise14ToolOf() {
        ToolShed shed = Check.shedOf(5);
        shed.tool(1, 33, 44);
        shed.hang(0, 2, 3);
        int[] hanging = {1, 33, 44, 0, Check.NOT_FOUND, Check.NOT_FOUND, 1000, 0, 23};
        dueOfTool(shed, "hanging", hanging);
        shed.pass(2);
        shed.borrow(0, 4);
        int[] lent = {1, 33, 44, 1, 4, 9, 1000, 1, Check.NOT_FOUND};
        dueOfTool(shed, "lent", lent);
        shed.lose(0);
        int[] lost = {1, 33, 44, 2, 4, 9, 1000, 1, Check.NOT_FOUND};
        dueOfTool(shed, "lost", lost);
        shed.find(0);
        int[] found = {1, 33, 44, 0, Check.NOT_FOUND, Check.NOT_FOUND, 1000, 1, Check.NOT_FOUND};
        dueOfTool(shed, "found", found);
        shed.lendOut(0, 3, 5, 0);
        int[] away = {1, 33, 44, 3, 3, 7, 1000, 2, Check.NOT_FOUND};
        dueOfTool(shed, "at another shed", away);
        shed.comeBack(0);
        shed.borrow(0, 4);
        shed.lose(0);
        shed.say(0, shed.panelAt(0, 0, 0), 1);
        shed.say(0, shed.panelAt(0, 1, 0), 1);
        int[] gone = {1, 33, 44, 4, Check.NOT_FOUND, Check.NOT_FOUND, 560, 3, Check.NOT_FOUND};
        dueOfTool(shed, "gone", gone);
        shed.tool(0, 2, 0);
        shed.hang(1, 0, 0);
        CHECK.due("the first wall and hook", 0, shed.toolOf(1, 8));
        CHECK.due("a cutter", 0, shed.toolOf(1, 0));
        CHECK.due("toolOf(0, 9)", Check.INVALID, shed.toolOf(0, 9));
        CHECK.due("toolOf(0, -1)", Check.INVALID, shed.toolOf(0, -1));
        CHECK.due("toolOf(2, 0)", Check.INVALID, shed.toolOf(2, 0));
        CHECK.due("toolOf(-1, 0)", Check.INVALID, shed.toolOf(-1, 0));
    }

    private static void dueOfTool(ToolShed shed, String when, int[] due) {
        for (int what = 0; what < due.length; what++) {
            CHECK.due(when + ": toolOf(0, " + what + ")", due[what], shed.toolOf(0, what));
        }
    }

    private static void promise15Bits() {
        dueBitsDayByDay(50);
        dueBitsDayByDay(7);
        ToolShed shed = Check.shedOf(1);
        shed.tool(0, 5, 50);
        CHECK.due("bits of 1", 0x3f800000, shed.bits(0));
        CHECK.due("bits(1)", Check.INVALID, shed.bits(1));
        CHECK.due("bits(-1)", Check.INVALID, shed.bits(-1));
    }

    /** By halves, the sharpness goes down to the floats without a leading bit and on to 0. */
    private static void dueBitsDayByDay(int wear) {
        ToolShed shed = Check.shedOf(1);
        shed.tool(0, 5, wear);
        float sharp = 1f;
        for (int day = 1; day <= 160; day++) {
            Check.wearOnce(shed, 0);
            sharp = sharp * (100 - wear) / 100f;
            CHECK.due("bits by wear " + wear + ", day " + day, Float.floatToIntBits(sharp), shed.bits(0));
        }
        CHECK.due("nothing is left of halves", wear == 50 ? 1 : 0, shed.bits(0) == 0 ? 1 : 0);
    }

    private static void promise16DullBehind() {
        ToolShed shed = Check.shedOf(4);
        shed.tool(0, 5, 20);
        shed.tool(0, 5, 0);
        shed.tool(0, 5, 1);
        CHECK.due("one day", 800, shed.dullBehind(0, 1));
        CHECK.due("two days", 640, shed.dullBehind(0, 2));
        CHECK.due("without wear", 1000, shed.dullBehind(1, 200));
        float sharp = 1f;
        for (int day = 1; day <= 200; day++) {
            sharp = sharp * 99f / 100f;
            CHECK.due("wear 1, day " + day, (int) (sharp * 1000f), shed.dullBehind(2, day));
        }
        CHECK.due("it only foretells", 1000, shed.toolOf(0, 6));
        CHECK.due("dullBehind(0, 0)", Check.INVALID, shed.dullBehind(0, 0));
        CHECK.due("dullBehind(0, 201)", Check.INVALID, shed.dullBehind(0, 201));
        CHECK.due("dullBehind(3, 1)", Check.INVALID, shed.dullBehind(3, 1));
        CHECK.due("dullBehind(-1, 1)", Check.INVALID, shed.dullBehind(-1, 1));
        shed.borrow(0, 0);
        shed.pass(5);
        CHECK.due("however long it is away", 800, shed.dullBehind(0, 1));
        shed.lose(0);
        CHECK.due("a lost one", 800, shed.dullBehind(0, 1));
        shed.say(0, 1, 0);
        shed.say(0, 2, 0);
        CHECK.due("a gone one", Check.NOT_POSSIBLE, shed.dullBehind(0, 1));
        CHECK.due("a gone one, and a wrong argument", Check.INVALID, shed.dullBehind(0, 201));
        shed.lendOut(1, 0, 1, 1);
        CHECK.due("one at another shed", 1000, shed.dullBehind(1, 1));
    }

    private static void promise17Mean() {
        ToolShed shed = Check.shedOf(3);
        CHECK.due("no tools", Check.NOT_FOUND, shed.mean(0));
        int[] wears = {1, 7, 13, 50, 29};
        double sum = 0;
        for (int i = 0; i < wears.length; i++) {
            shed.tool(0, 5, wears[i]);
            shed.lendOut(i, 0, 1, 0);
            shed.comeBack(i);
            sum += (double) (1f * (100 - wears[i]) / 100f);
        }
        shed.tool(1, 5, 10);
        CHECK.due("mean of five", (int) (sum / 5 * 1000.0), shed.mean(0));
        CHECK.due("which is", 800, shed.mean(0));
        CHECK.due("of the other kind", 1000, shed.mean(1));
        shed.borrow(3, 0);
        CHECK.due("lent ones are not in the shed", 875, shed.mean(0));
        shed.lendOut(5, 0, 1, 0);
        CHECK.due("none of the kind in the shed", Check.NOT_FOUND, shed.mean(1));
        CHECK.due("mean(2)", Check.INVALID, shed.mean(2));
        CHECK.due("mean(-1)", Check.INVALID, shed.mean(-1));
        addsInDoubles();
    }

    /** Three sharpnesses whose sum in floats would be cut to another number. */
    private static void addsInDoubles() {
        ToolShed shed = Check.shedOf(1);
        for (int wear = 1; wear <= 18; wear++) {
            shed.tool(1, 5, wear);
            for (int i = 0; i < wear % 5; i++) {
                shed.lendOut(wear - 1, 0, 1, 0);
                shed.comeBack(wear - 1);
            }
            double sum = 0;
            for (int tool = 0; tool < wear; tool++) {
                sum += Float.intBitsToFloat(shed.bits(tool));
            }
            CHECK.due("mean of " + wear, (int) (sum / wear * 1000), shed.mean(1));
        }
    }

    private static void promise18HookAt() {
        ToolShed shed = Check.shedOf(1);
        for (int i = 0; i < 3; i++) {
            shed.tool(1, 5, 10);
        }
        shed.hang(2, 1, 3);
        shed.hang(0, 2, 3);
        CHECK.due("a taken hook", 2, shed.hookAt(1, 3));
        CHECK.due("the same hook of another wall", 0, shed.hookAt(2, 3));
        CHECK.due("a free hook", Check.NOT_FOUND, shed.hookAt(1, 2));
        CHECK.due("the first hook", Check.NOT_FOUND, shed.hookAt(0, 0));
        CHECK.due("hookAt(3, 0)", Check.INVALID, shed.hookAt(3, 0));
        CHECK.due("hookAt(-1, 0)", Check.INVALID, shed.hookAt(-1, 0));
        CHECK.due("hookAt(0, 4)", Check.INVALID, shed.hookAt(0, 4));
        CHECK.due("hookAt(0, -1)", Check.INVALID, shed.hookAt(0, -1));
        shed.borrow(2, 0);
        CHECK.due("a lent one leaves its hook", Check.NOT_FOUND, shed.hookAt(1, 3));
        shed.lendOut(0, 0, 1, 1);
        CHECK.due("one lent to another shed too", Check.NOT_FOUND, shed.hookAt(2, 3));
        shed.comeBack(0);
        CHECK.due("and does not hang again", Check.NOT_FOUND, shed.hookAt(2, 3));
    }
}
