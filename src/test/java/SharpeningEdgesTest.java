/** Promises 19 to 22 at their edges: nobody there, ten in turns, at the limit and beside it, no cutter and twenty. */
public final class SharpeningEdgesTest {
    private static final Check CHECK = new Check();
    private static final int CUTTER = 0;
    private static final int PLAIN = 1;

    public static void main(String[] args) {
        promise19NoMemberIsThere();
        promise19NoCutterInTheShed();
        promise19AtTheLimitAndBelow();
        promise19LimitOf0And1000();
        promise19EqualOnes();
        promise19TenInTurns();
        promise19OnlyOneInTurns();
        promise19LeastAndMostRestored();
        promise19ALittleAbove1();
        promise20FirstAndLastOfTen();
        promise20Refused();
        promise21FirstAndLastOfTen();
        promise22FirstAndLastOfTwenty();
        promise22EqualOnesByNumbers();
        CHECK.close("SharpeningEdgesTest");
    }

    /** So many members, and so many cutters of half the sharpness. */
    private static ToolShed dullShed(int members, int cutters) {
        ToolShed shed = Check.shedOf(Math.max(1, members));
        for (int tool = 0; tool < cutters; tool++) {
            shed.tool(CUTTER, 1, 50);
            Check.wearOnce(shed, tool);
        }
        return shed;
    }

    private static void promise19NoMemberIsThere() {
        new Twins(CHECK, () -> {
            ToolShed shed = new ToolShed();
            shed.tool(CUTTER, 1, 50);
            return shed;
        }).dueNotPossible("19: no member", ToolShed::sharpen);
        Twins away = new Twins(CHECK, () -> {
            ToolShed shed = dullShed(3, 1);
            shed.away(0, 1);
            shed.away(1, 1);
            shed.leave(2);
            return shed;
        });
        away.dueNotPossible("19: two are away, one is gone", ToolShed::sharpen);
        ToolShed back = dullShed(2, 1);
        back.away(0, 1);
        back.away(1, 1);
        CHECK.due("19: all are away", Check.NOT_POSSIBLE, back.sharpen());
        back.away(1, 0);
        CHECK.due("19: the last one is there again", 0, back.sharpen());
        CHECK.due("19: and got the quarters", 2, back.memberOf(1, 1));
    }

    private static void promise19NoCutterInTheShed() {
        new Twins(CHECK, () -> Check.shedOf(1)).dueNotFound("19: no tool", ToolShed::sharpen);
        Twins plain = new Twins(CHECK, () -> {
            ToolShed shed = Check.shedOf(1);
            shed.tool(PLAIN, 1, 50);
            Check.wearOnce(shed, 0);
            return shed;
        });
        plain.dueNotFound("19: a dull plain one", ToolShed::sharpen);
        Twins out = new Twins(CHECK, () -> {
            ToolShed shed = dullShed(5, 4);
            shed.borrow(0, 0);
            shed.borrow(1, 0);
            shed.lose(1);
            shed.lendOut(2, 0, 1, 0);
            shed.borrow(3, 0);
            shed.lose(3);
            shed.say(3, shed.panelAt(3, 0, 0), 0);
            shed.say(3, shed.panelAt(3, 1, 0), 0);
            return shed;
        });
        out.dueNotFound("19: lent, lost, at another shed, gone", ToolShed::sharpen);
        out.dueNotFound("22: lent, lost, at another shed, gone", shed -> shed.dullAt(0));
    }

    private static void promise19AtTheLimitAndBelow() {
        int[] wears = {50, 1, 40};
        int[] thousandths = {500, 990, 600};
        for (int i = 0; i < wears.length; i++) {
            for (int beside = -1; beside <= 1; beside++) {
                ToolShed shed = Check.shedOf(1);
                shed.tool(CUTTER, 1, wears[i]);
                Check.wearOnce(shed, 0);
                shed.set(4, thousandths[i] + beside);
                int due = beside > 0 ? 0 : Check.NOT_FOUND;
                CHECK.due("19: " + thousandths[i] + " with the limit " + beside + " beside it", due, shed.sharpen());
            }
        }
        Twins at = new Twins(CHECK, () -> {
            ToolShed shed = dullShed(2, 1);
            shed.set(4, 500);
            return shed;
        });
        at.dueNotFound("19: just at the limit", ToolShed::sharpen);
    }

    private static void promise19LimitOf0And1000() {
        ToolShed worn = Check.shedOf(1);
        worn.tool(CUTTER, 1, 50);
        for (int day = 0; day < 12; day++) {
            Check.wearOnce(worn, 0);
        }
        worn.set(4, 0);
        CHECK.due("19: thousandths", 0, worn.toolOf(0, 6));
        CHECK.due("19: 0 is not below 0", Check.NOT_FOUND, worn.sharpen());
        worn.set(4, 1);
        CHECK.due("19: 0 is below 1", 0, worn.sharpen());
        ToolShed sharp = Check.shedOf(1);
        sharp.tool(CUTTER, 1, 0);
        sharp.set(4, 1000);
        CHECK.due("19: 1000 is not below 1000", Check.NOT_FOUND, sharp.sharpen());
    }

    private static void promise19EqualOnes() {
        ToolShed shed = dullShed(1, 20);
        for (int tool = 0; tool < 20; tool++) {
            CHECK.due("19: of equal ones the lowest number", tool, shed.sharpen());
        }
        CHECK.due("19: none is left", Check.NOT_FOUND, shed.sharpen());
    }

    private static void promise19TenInTurns() {
        ToolShed shed = dullShed(10, 12);
        for (int turn = 0; turn < 12; turn++) {
            int member = turn % 10;
            int before = shed.memberOf(member, 1);
            CHECK.due("19: the first of the turns", member, shed.turnAt(0));
            CHECK.due("19: sharpens", turn, shed.sharpen());
            CHECK.due("19: is given the quarters", before + 2, shed.memberOf(member, 1));
            CHECK.due("19: comes to the end", 9, shed.memberOf(member, 13));
        }
    }

    private static void promise19OnlyOneInTurns() {
        ToolShed shed = dullShed(1, 2);
        shed.sharpen();
        CHECK.due("19: the only one stays first", 0, shed.turnAt(0));
        shed.sharpen();
        CHECK.due("19: and sharpens again", 4, shed.memberOf(0, 1));
        ToolShed last = dullShed(3, 1);
        last.away(0, 1);
        last.away(1, 1);
        CHECK.due("19: the last of the turns", 0, last.sharpen());
        CHECK.dueText("19: the turns stay", "0 1 2", last.turnAt(0) + " " + last.turnAt(1) + " " + last.turnAt(2));
    }

    private static void promise19LeastAndMostRestored() {
        int[] percents = {0, 1, 99, 100};
        int[] due = {500, 505, 995, 1000};
        for (int i = 0; i < percents.length; i++) {
            ToolShed shed = dullShed(1, 1);
            shed.set(5, percents[i]);
            CHECK.due("19: sharpen by " + percents[i], 0, shed.sharpen());
            CHECK.due("19: restored by " + percents[i], due[i], shed.toolOf(0, 6));
        }
    }

    /** Floats are rounded, so a tool that all is restored of may be a little sharper than a new one. */
    private static void promise19ALittleAbove1() {
        ToolShed shed = Check.shedOf(1);
        shed.tool(CUTTER, 1, 6);
        shed.tool(CUTTER, 1, 0);
        shed.lendOut(0, 0, 1, 0);
        shed.pass(28);
        shed.comeBack(0);
        shed.set(4, 1000);
        shed.set(5, 100);
        CHECK.due("19: restores all", 0, shed.sharpen());
        CHECK.due("15: the float next to 1", 0x3f800001, shed.bits(0));
        CHECK.due("14: thousandths of it", 1000, shed.toolOf(0, 6));
        CHECK.due("17: the mean of it and 1", 1000, shed.mean(CUTTER));
        CHECK.dueText("22: it is behind 1", "1 0", shed.dullAt(0) + " " + shed.dullAt(1));
        CHECK.due("19: not below 1000", Check.NOT_FOUND, shed.sharpen());
    }

    private static void promise20FirstAndLastOfTen() {
        Twins ten = new Twins(CHECK, () -> Check.shedOf(10));
        ten.dueUndone("20: the first with the last", 9, shed -> shed.swap(0, 9));
        ten.dueUndone("20: the last with the first", 0, shed -> shed.swap(9, 0));
        ten.dueUndone("20: neighbours", 5, shed -> shed.swap(4, 5));
        ToolShed shed = Check.shedOf(10);
        shed.swap(0, 9);
        for (int place = 0; place < 10; place++) {
            int due = place == 0 ? 9 : place == 9 ? 0 : place;
            CHECK.due("20: place " + place, due, shed.turnAt(place));
            CHECK.due("20: whose place is " + place, place, shed.memberOf(due, 13));
        }
    }

    private static void promise20Refused() {
        Twins gone = new Twins(CHECK, () -> {
            ToolShed shed = Check.shedOf(4);
            shed.leave(1);
            shed.leave(3);
            return shed;
        });
        gone.dueNotPossible("20: the first is gone", shed -> shed.swap(1, 0));
        gone.dueNotPossible("20: the other is gone", shed -> shed.swap(0, 3));
        gone.dueNotPossible("20: both are gone", shed -> shed.swap(1, 3));
        gone.dueInvalid("20: both the same", shed -> shed.swap(0, 0));
        gone.dueInvalid("20: both the same gone one", shed -> shed.swap(3, 3));
        gone.dueInvalid("20: one is gone, the other is none", shed -> shed.swap(1, 4));
        gone.dueUndone("20: who are left", 1, shed -> shed.swap(0, 2));
    }

    private static void promise21FirstAndLastOfTen() {
        Twins ten = new Twins(CHECK, () -> Check.shedOf(10));
        ten.dueUnchanged("21: the first", 0, shed -> shed.turnAt(0));
        ten.dueUnchanged("21: the last", 9, shed -> shed.turnAt(9));
        ten.dueNotFound("21: behind the last", shed -> shed.turnAt(10));
        ten.dueNotFound("21: far behind the last", shed -> shed.turnAt(Integer.MAX_VALUE));
        ToolShed shed = Check.shedOf(10);
        for (int left = 9; left >= 1; left--) {
            shed.leave(9 - left);
            CHECK.due("21: the first of " + left, 10 - left, shed.turnAt(0));
            CHECK.due("21: the last of " + left, 9, shed.turnAt(left - 1));
            CHECK.due("21: behind the last of " + left, Check.NOT_FOUND, shed.turnAt(left));
        }
    }

    private static void promise22FirstAndLastOfTwenty() {
        ToolShed shed = Check.shedOf(1);
        for (int tool = 0; tool < 20; tool++) {
            shed.tool(CUTTER, 1, 30 + tool);
            Check.wearOnce(shed, tool);
        }
        for (int index = 0; index < 20; index++) {
            CHECK.due("22: dullAt(" + index + ")", 19 - index, shed.dullAt(index));
        }
        CHECK.due("22: behind the last", Check.NOT_FOUND, shed.dullAt(20));
        CHECK.due("22: far behind the last", Check.NOT_FOUND, shed.dullAt(Integer.MAX_VALUE));
        shed.lendOut(19, 0, 1, 0);
        CHECK.due("22: the dullest is lent", 18, shed.dullAt(0));
        CHECK.due("22: so there is one less", Check.NOT_FOUND, shed.dullAt(19));
    }

    private static void promise22EqualOnesByNumbers() {
        ToolShed shed = dullShed(1, 20);
        for (int index = 0; index < 20; index++) {
            CHECK.due("22: equal ones, " + index, index, shed.dullAt(index));
        }
        Check.wearOnce(shed, 19);
        CHECK.due("22: the duller one is first", 19, shed.dullAt(0));
        CHECK.due("22: then the equal ones", 0, shed.dullAt(1));
        CHECK.due("22: to the last", 18, shed.dullAt(19));
    }
}
