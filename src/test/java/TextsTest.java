/** Promises 35 to 38: orders as texts. */
public final class TextsTest {
    private static final Check CHECK = new Check();

    public static void main(String[] args) {
        promise35Type();
        promise36ClearText();
        promise37Form();
        promise37NoneSuch();
        promise37Otherwise();
        promise37BehindOtherOrders();
        promise37ChangesNothing();
        promise38Play();
        promise38OneChange();
        CHECK.close("TextsTest");
    }

    private static void promise35Type() {
        ToolShed shed = new ToolShed();
        CHECK.due("type(31)", Check.INVALID, shed.type(31));
        CHECK.due("type(127)", Check.INVALID, shed.type(127));
        CHECK.due("type(-1)", Check.INVALID, shed.type(-1));
        CHECK.due("type(65536 + 's')", Check.INVALID, shed.type(65536 + 's'));
        CHECK.due("the least", 1, shed.type(32));
        CHECK.due("the most", 2, shed.type(126));
        for (int length = 3; length <= 60; length++) {
            CHECK.due("type('s')", length, shed.type('s'));
        }
        CHECK.due("the 61st", Check.LIMIT, shed.type('s'));
        CHECK.due("the 61st, and a wrong argument", Check.INVALID, shed.type(31));
        CHECK.due("length", 60, shed.count(11));
    }

    private static void promise36ClearText() {
        ToolShed shed = new ToolShed();
        CHECK.due("empty", 0, shed.clearText());
        Check.type(shed, "s;x");
        CHECK.due("length it had", 3, shed.clearText());
        CHECK.due("it is empty", 0, shed.count(11));
        CHECK.due("no fault is left", Check.NOT_FOUND, shed.fault(0));
        CHECK.due("typed anew", 1, shed.type('a'));
        Check.type(shed, "bcdefghijklmnopqrstuvwxyzabcdefghijklmnopqrstuvwxyzabcdefghi");
        CHECK.due("a full one", 60, shed.clearText());
        CHECK.due("and again", 0, shed.clearText());
    }

    /** Three members who have given nothing, and three tools; member 1 has tool 1. */
    private static ToolShed shedForTexts() {
        ToolShed shed = Check.shedOf(3);
        shed.tool(0, 9, 30);
        shed.tool(1, 9, 30);
        shed.tool(0, 9, 30);
        shed.borrow(1, 1);
        return shed;
    }

    private static void dueFault(ToolShed shed, String text, int position, int reason) {
        shed.clearText();
        Check.type(shed, text);
        CHECK.due("position of the fault of " + text, position, shed.fault(0));
        CHECK.due("reason of the fault of " + text, reason, shed.fault(1));
        if (position >= 0) {
            CHECK.due("play() of " + text, Check.NOT_POSSIBLE, shed.play());
        }
    }

    private static void dueNoFault(ToolShed shed, String text) {
        dueFault(shed, text, Check.NOT_FOUND, Check.NOT_FOUND);
    }

    private static void promise37Form() {
        ToolShed shed = shedForTexts();
        CHECK.due("fault(2)", Check.INVALID, shed.fault(2));
        CHECK.due("fault(-1)", Check.INVALID, shed.fault(-1));
        dueNoFault(shed, "");
        dueNoFault(shed, "g0,1;");
        dueNoFault(shed, "g000,001;l2,002;b01;");
        String[] wrong = {";", " ", "g", "l", "b", "s", "x;", "S;", "G0,1;", "g;", "g,;", "g0;", "g0,;", "g,1;", "g0,1",
            "g0 ,1;", "g0,1 ;", "g0;1;", "g0,1,", "g0000,1;", "g0,0001;", "g0,1,2;", "l0;", "l0,1", "l,1;", "l0,;",
            "l0.1;", "b;", "b1", "b1,", "b0001;", "b1,1;", "bx;", "s1;", "s ;", "ss;", "-1;", "g-1,1;", "g+1,1;",
            "g0,-1;", "b:;", "b/;", "g0,1:", "gg0,1;"};
        for (String text : wrong) {
            dueFault(shedForTexts(), text, 0, 1);
            dueFault(shedForTexts(), "g0,1;" + text, 5, 1);
        }
        dueFault(shed, "g0,1;;g0,1;", 5, 1);
        dueFault(shed, "g0,1; g0,1;", 5, 1);
    }

    private static void promise37NoneSuch() {
        ToolShed shed = shedForTexts();
        dueFault(shed, "g3,1;", 0, 2);
        dueFault(shed, "g999,1;", 0, 2);
        dueFault(shed, "g3,999;", 0, 2);
        dueFault(shed, "l3,0;", 0, 2);
        dueFault(shed, "l0,3;", 0, 2);
        dueFault(shed, "l1,3;", 0, 2);
        dueFault(shed, "b3;", 0, 2);
        dueFault(shed, "b1;b3;", 3, 2);
        dueFault(shed, "g3,1", 0, 1);
    }

    private static void promise37Otherwise() {
        ToolShed shed = shedForTexts();
        dueFault(shed, "g0,0;", 0, 3);
        dueFault(shed, "g0,401;", 0, 3);
        dueNoFault(shed, "g0,400;");
        dueFault(shed, "l1,0;", 0, 3);
        dueFault(shed, "b0;", 0, 3);
        dueFault(shed, "s;", 0, 3);
        shed.away(2, 1);
        dueFault(shed, "l0,2;", 0, 3);
        dueNoFault(shed, "g2,1;");
        shed.leave(2);
        dueFault(shed, "g2,1;", 0, 3);
        dueFault(shed, "l0,2;", 0, 3);
        shed.away(0, 1);
        shed.away(1, 1);
        dueFault(shed, "s;", 0, 3);
    }

    private static void promise37BehindOtherOrders() {
        ToolShed shed = shedForTexts();
        dueNoFault(shed, "b1;l1,0;b1;");
        dueFault(shed, "b1;b1;", 3, 3);
        dueFault(shed, "l0,0;l0,1;", 5, 3);
        dueFault(shed, "l0,0;l2,0;b0;l2,1;", 13, 3);
        dueFault(shed, "b1;s;", 3, 3);
        shed.set(4, 701);
        dueFault(shed, "b1;s;", 3, 3);
        dueNoFault(shed, "l0,0;b0;s;");
        dueFault(shed, "l0,0;b0;s;s;", 10, 3);
        shed.pass(30);
        dueFault(shed, "l0,0;", 0, 3);
        dueFault(shed, "g0,19;l0,0;", 6, 3);
        dueNoFault(shed, "g0,20;l0,0;");
        dueFault(shed, "b1;g1,42;l1,1;", 9, 3);
        dueNoFault(shed, "b1;g1,43;l1,1;");
        shed.clearText();
        Check.type(shed, "g0,400;g0,400;g0,400;g0,400;g0,400;g0,400;g0,400;g0,400;g0,4");
        CHECK.due("an order that the limit cuts off", 56, shed.fault(0));
        CHECK.due("is not of the form", 1, shed.fault(1));
    }

    private static void promise37ChangesNothing() {
        Twins good = new Twins(CHECK, () -> typed("g0,50;b1;l1,0;"));
        good.dueNotFound("fault(0) of good orders", shed -> shed.fault(0));
        good.dueNotFound("fault(1) of good orders", shed -> shed.fault(1));
        Twins bad = new Twins(CHECK, () -> typed("g0,50;b1;l1,0;b2;"));
        bad.dueUnchanged("a fault behind good orders", 14, shed -> shed.fault(0));
        bad.dueUnchanged("its reason", 3, shed -> shed.fault(1));
        bad.dueNotPossible("play()", ToolShed::play);
    }

    private static ToolShed typed(String text) {
        ToolShed shed = shedForTexts();
        Check.type(shed, text);
        return shed;
    }

    private static void promise38Play() {
        ToolShed shed = shedForTexts();
        Check.type(shed, "g0,50;b1;l1,0;l2,2;b2;");
        CHECK.due("play()", 5, shed.play());
        CHECK.due("the text stays", 22, shed.count(11));
        CHECK.due("given", 50, shed.memberOf(0, 1));
        CHECK.due("lent", 0, shed.toolOf(1, 4));
        CHECK.due("how often", 2, shed.toolOf(1, 7));
        CHECK.due("given back", 700, shed.toolOf(2, 6));
        CHECK.due("again", 5, shed.play());
        CHECK.due("given again", 100, shed.memberOf(0, 1));
        CHECK.due("duller", 490, shed.toolOf(1, 6));
        shed.clearText();
        Check.type(shed, "s;");
        CHECK.due("sharpen", 1, shed.play());
        CHECK.due("sharper", 898, shed.toolOf(2, 6));
        CHECK.due("quarters for it", 102, shed.memberOf(0, 1));
        CHECK.due("to the end of the turns", 2, shed.memberOf(0, 13));
        CHECK.due("none is dull any more", Check.NOT_POSSIBLE, shed.play());
        shed.clearText();
        for (int i = 0; i < 30; i++) {
            Check.type(shed, "s;");
        }
        shed.set(4, 1000);
        CHECK.due("too many for the cutters", Check.NOT_POSSIBLE, shed.play());
    }

    private static void promise38OneChange() {
        ToolShed shed = new ToolShed();
        CHECK.due("no orders", 0, shed.play());
        CHECK.due("are one change", 1, shed.count(10));
        shed.member();
        Check.type(shed, "g0,1;g0,2;g0,3;");
        CHECK.due("three orders", 3, shed.play());
        CHECK.due("are one change", 3, shed.count(10));
        CHECK.due("undo()", 2, shed.undo());
        CHECK.due("all three are undone", 0, shed.memberOf(0, 1));
        shed.clearText();
        Check.type(shed, "g0,400;");
        for (int i = 1; i <= 6; i++) {
            shed.play();
        }
        CHECK.due("states", 4, shed.count(10));
        CHECK.due("undo()", 3, shed.undo());
        CHECK.due("one of six", 2000, shed.memberOf(0, 3));
    }
}
