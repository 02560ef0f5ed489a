/** Promises 19 to 22: sharpening in turns. */
public final class SharpeningTest {
    private static final Check CHECK = new Check();

    public static void main(String[] args) {
        promise19Sharpen();
        promise19Limit();
        promise19InFloats();
        promise20Swap();
        promise21TurnAt();
        promise22DullAt();
        CHECK.close("SharpeningTest");
    }

    private static void promise19Sharpen() {
        ToolShed shed = Check.shedOf(3);
        CHECK.due("no cutter", Check.NOT_FOUND, shed.sharpen());
        shed.tool(1, 5, 50);
        shed.tool(0, 5, 45);
        shed.tool(0, 5, 50);
        shed.tool(0, 5, 50);
        for (int tool = 0; tool < 4; tool++) {
            Check.wearOnce(shed, tool);
        }
        shed.away(0, 1);
        CHECK.due("the dullest cutter, lowest number", 2, shed.sharpen());
        CHECK.due("eighty percent of what was lost", 900, shed.toolOf(2, 6));
        CHECK.due("the first one who is there is given quarters", 2, shed.memberOf(1, 1));
        CHECK.due("who is away is not", 0, shed.memberOf(0, 1));
        CHECK.due("the away one keeps the place", 0, shed.turnAt(0));
        CHECK.due("the next one", 2, shed.turnAt(1));
        CHECK.due("the sharpener is last", 1, shed.turnAt(2));
        shed.set(3, 0);
        CHECK.due("the next dullest", 3, shed.sharpen());
        CHECK.due("nothing is given for it", 0, shed.memberOf(2, 1));
        CHECK.due("the place changes all the same", 2, shed.memberOf(2, 13));
        shed.borrow(1, 1);
        CHECK.due("a lent one is not sharpened", Check.NOT_FOUND, shed.sharpen());
        shed.away(1, 1);
        shed.leave(2);
        CHECK.due("nobody is there, and no cutter is dull", Check.NOT_POSSIBLE, shed.sharpen());
        CHECK.due("no member", Check.NOT_POSSIBLE, new ToolShed().sharpen());
        paysWhatIsOpen();
    }

    private static void paysWhatIsOpen() {
        ToolShed shed = Check.shedOf(1);
        shed.tool(0, 5, 50);
        Check.wearOnce(shed, 0);
        shed.set(3, 40);
        shed.pass(30);
        CHECK.due("sharpen", 0, shed.sharpen());
        CHECK.dueText("the quarters pay the dues", "40 0 20 0 20", Check.numbers(shed, 0, 1, 5));
    }

    private static void promise19Limit() {
        ToolShed shed = Check.shedOf(1);
        shed.tool(0, 5, 40);
        Check.wearOnce(shed, 0);
        CHECK.due("thousandths", 600, shed.toolOf(0, 6));
        CHECK.due("not below the limit", Check.NOT_FOUND, shed.sharpen());
        shed.set(4, 601);
        CHECK.due("below the limit", 0, shed.sharpen());
        shed.set(4, 1000);
        shed.set(5, 0);
        CHECK.due("restores nothing", 0, shed.sharpen());
        CHECK.due("as dull as before", 920, shed.toolOf(0, 6));
        shed.set(5, 100);
        CHECK.due("restores all", 0, shed.sharpen());
        CHECK.due("as sharp as new", 0x3f800000, shed.bits(0));
        CHECK.due("not below 1000", Check.NOT_FOUND, shed.sharpen());
        Check.wearOnce(shed, 0);
        shed.set(4, 0);
        CHECK.due("nothing is below 0", Check.NOT_FOUND, shed.sharpen());
    }

    private static void promise19InFloats() {
        ToolShed shed = Check.shedOf(1);
        shed.tool(0, 5, 37);
        shed.set(4, 1000);
        float sharp = 1f;
        for (int percent = 1; percent <= 100; percent += 3) {
            Check.wearOnce(shed, 0);
            sharp = sharp * 63f;
            sharp = sharp / 100f;
            shed.set(5, percent);
            shed.sharpen();
            float restored = (1f - sharp) * percent;
            sharp = sharp + restored / 100f;
            CHECK.due("bits with " + percent + " percent", Float.floatToIntBits(sharp), shed.bits(0));
        }
    }

    private static void promise20Swap() {
        ToolShed shed = Check.shedOf(4);
        CHECK.due("the place of the first one then", 3, shed.swap(0, 3));
        CHECK.due("the other one", 0, shed.memberOf(3, 13));
        CHECK.due("with the first of the turns", 0, shed.swap(0, 3));
        CHECK.due("and back", 0, shed.swap(3, 0));
        CHECK.due("first of the turns", 3, shed.turnAt(0));
        CHECK.due("last of the turns", 0, shed.turnAt(3));
        shed.away(2, 1);
        CHECK.due("an away one", 1, shed.swap(2, 1));
        CHECK.due("both the same", Check.INVALID, shed.swap(1, 1));
        CHECK.due("swap(0, 4)", Check.INVALID, shed.swap(0, 4));
        CHECK.due("swap(4, 0)", Check.INVALID, shed.swap(4, 0));
        CHECK.due("swap(-1, 0)", Check.INVALID, shed.swap(-1, 0));
        CHECK.due("swap(0, -1)", Check.INVALID, shed.swap(0, -1));
        shed.leave(1);
        CHECK.due("the other one is gone", Check.NOT_POSSIBLE, shed.swap(0, 1));
        CHECK.due("the first one is gone", Check.NOT_POSSIBLE, shed.swap(1, 0));
        CHECK.due("both the same gone one", Check.INVALID, shed.swap(1, 1));
    }

    private static void promise21TurnAt() {
        ToolShed shed = Check.shedOf(4);
        shed.away(1, 1);
        for (int i = 0; i < 4; i++) {
            CHECK.due("turnAt(" + i + ")", i, shed.turnAt(i));
        }
        CHECK.due("turnAt(4)", Check.NOT_FOUND, shed.turnAt(4));
        shed.leave(0);
        CHECK.due("who is gone is in them no more", 1, shed.turnAt(0));
        CHECK.due("the others come up", 3, shed.turnAt(2));
        CHECK.due("there are three", Check.NOT_FOUND, shed.turnAt(3));
        CHECK.due("who joins comes to the end", 4, shed.member());
        CHECK.due("the end", 4, shed.turnAt(3));
        CHECK.due("turnAt(-1)", Check.INVALID, shed.turnAt(-1));
        CHECK.due("turnAt(least int)", Check.INVALID, shed.turnAt(Integer.MIN_VALUE));
        CHECK.due("turnAt(most int)", Check.NOT_FOUND, shed.turnAt(Integer.MAX_VALUE));
    }

    private static void promise22DullAt() {
        ToolShed shed = Check.shedOf(1);
        int[] wears = {10, 30, 20, 30, 0, 50};
        for (int tool = 0; tool < wears.length; tool++) {
            shed.tool(0, 5, wears[tool]);
            Check.wearOnce(shed, tool);
        }
        shed.tool(1, 5, 50);
        Check.wearOnce(shed, 6);
        int[] order = {5, 1, 3, 2, 0, 4};
        for (int i = 0; i < order.length; i++) {
            CHECK.due("dullAt(" + i + ")", order[i], shed.dullAt(i));
        }
        CHECK.due("plain ones do not count", Check.NOT_FOUND, shed.dullAt(6));
        shed.borrow(1, 0);
        shed.lendOut(0, 0, 1, 0);
        int[] inShed = {5, 3, 2, 4};
        for (int i = 0; i < inShed.length; i++) {
            CHECK.due("in the shed: dullAt(" + i + ")", inShed[i], shed.dullAt(i));
        }
        CHECK.due("in the shed: dullAt(4)", Check.NOT_FOUND, shed.dullAt(4));
        CHECK.due("dullAt(-1)", Check.INVALID, shed.dullAt(-1));
        CHECK.due("dullAt(least int)", Check.INVALID, shed.dullAt(Integer.MIN_VALUE));
        CHECK.due("dullAt(most int)", Check.NOT_FOUND, shed.dullAt(Integer.MAX_VALUE));
    }
}
