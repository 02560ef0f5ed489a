/** Promises 35 to 38 at their edges: empty and full texts, numbers of no to four digits, the first fault of several. */
public final class TextsEdgesTest {
    private static final Check CHECK = new Check();
    private static final int CUTTER = 0;
    private static final int NONE = Check.NOT_FOUND;

    public static void main(String[] args) {
        promise35EachCharacter();
        promise35EmptyAndFull();
        promise36EmptyAndFull();
        promise36NothingOfTheOldTextIsLeft();
        promise37NumberOfDigits();
        promise37BesideTheDigits();
        promise37CutOffAnywhere();
        promise37FirstAndLastMemberAndTool();
        promise37LeastAndMostQuarters();
        promise37ReasonOfSeveral();
        promise37FirstFaultOfSeveral();
        promise37FirstAndLastPosition();
        promise37WhatBorrowTells();
        promise37WhatGiveBackTells();
        promise37WhatGiveTells();
        promise37WhatSharpenTells();
        promise38NoneAndThirtyOrders();
        promise38AllOrNothing();
        promise38TextStays();
        CHECK.close("TextsEdgesTest");
    }

    /** Ten members and twenty cutters without wear; 9 is gone, 8 away; tool 18 is with member 7, 19 at another shed. */
    private static ToolShed fullShed() {
        ToolShed shed = Check.shedOf(10);
        for (int tool = 0; tool < 20; tool++) {
            shed.tool(CUTTER, 5, 0);
        }
        shed.borrow(18, 7);
        shed.lendOut(19, 0, 1, 0);
        shed.away(8, 1);
        shed.leave(9);
        return shed;
    }

    private static ToolShed typed(String text) {
        ToolShed shed = fullShed();
        Check.type(shed, text);
        return shed;
    }

    private static void dueFault(String text, int position, int reason) {
        Twins twins = new Twins(CHECK, () -> typed(text));
        twins.dueUnchanged("37: position of the fault of " + text, position, shed -> shed.fault(0));
        twins.dueUnchanged("37: reason of the fault of " + text, reason, shed -> shed.fault(1));
        if (position >= 0) {
            twins.dueNotPossible("38: play of " + text, ToolShed::play);
        }
    }

    private static void dueNoFault(String text) {
        dueFault(text, NONE, NONE);
    }

    private static void promise35EachCharacter() {
        ToolShed shed = new ToolShed();
        int length = 0;
        for (int character = 32; character <= 126; character++) {
            if (length == 60) {
                CHECK.due("36: length it had", 60, shed.clearText());
                length = 0;
            }
            length++;
            CHECK.due("35: type(" + character + ")", length, shed.type(character));
        }
    }

    private static void promise35EmptyAndFull() {
        String most = "123456789 123456789 123456789 123456789 123456789 123456789";
        CHECK.due("35: the 60th", 60, typed(most).type('0'));
        Twins full = new Twins(CHECK, () -> typed(most + "0"));
        for (int character : new int[] {32, ';', 126}) {
            full.dueUnchanged("35: the 61st, " + character, Check.LIMIT, shed -> shed.type(character));
        }
        full.dueInvalid("35: the 61st, 31", shed -> shed.type(31));
        full.dueInvalid("35: the 61st, 127", shed -> shed.type(127));
        full.dueUnchanged("33: length", 60, shed -> shed.count(11));
        ToolShed again = typed(most + "0");
        again.clearText();
        CHECK.due("35: the first behind clearText", 1, again.type(' '));
    }

    private static void promise36EmptyAndFull() {
        String all = "s;s;s;s;s;s;s;s;s;s;s;s;s;s;s;s;s;s;s;s;s;s;s;s;s;s;s;s;s;s;";
        for (int length = 0; length <= 60; length++) {
            ToolShed shed = typed(all.substring(0, length));
            CHECK.due("36: length it had", length, shed.clearText());
            CHECK.due("36: length then", 0, shed.count(11));
            CHECK.due("36: no fault", NONE, shed.fault(1));
            CHECK.due("36: again", 0, shed.clearText());
        }
        new Twins(CHECK, TextsEdgesTest::fullShed).dueUnchanged("36: of an empty text", 0, ToolShed::clearText);
    }

    /** What stood behind the end of the new text does not end its last order. */
    private static void promise36NothingOfTheOldTextIsLeft() {
        String[] orders = {"g0,123;", "g0,1;", "l17,0;", "b18;", "s;"};
        for (String order : orders) {
            for (int length = 1; length < order.length(); length++) {
                ToolShed shed = typed(order);
                shed.clearText();
                Check.type(shed, order.substring(0, length));
                CHECK.dueText("36: the first " + length + " of " + order, "0 1", shed.fault(0) + " " + shed.fault(1));
            }
        }
    }

    /** Each number of each order, with no digit, with one to three, and with four. */
    private static void promise37NumberOfDigits() {
        String[][] orders = {{"g", ",5;"}, {"g0,", ";"}, {"l", ",0;"}, {"l0,", ";"}, {"b", ";"}};
        String[] numbers = {"1", "01", "001"};
        for (String[] order : orders) {
            dueFault(order[0] + order[1], 0, 1);
            for (String number : numbers) {
                boolean taken = !order[0].equals("b");
                dueFault(order[0] + number + order[1], taken ? NONE : 0, taken ? NONE : 3);
            }
            dueFault(order[0] + "0001" + order[1], 0, 1);
            dueFault(order[0] + "00001" + order[1], 0, 1);
        }
        dueNoFault("b18;");
        dueNoFault("b018;");
        dueFault("b0018;", 0, 1);
        dueFault("g1000,1;", 0, 1);
        dueFault("g0,1000;", 0, 1);
        dueFault("s0;", 0, 1);
    }

    /** The characters just beside the digits, and beside the letters, commas and ends. */
    private static void promise37BesideTheDigits() {
        String[] wrong = {"g/,1;", "g:,1;", "g0/,1;", "g0:,1;", "g0,/;", "g0,:;", "g0,1/;", "g0,1::", "l/,0;", "l0,:;",
            "b/;", "b18:", "b18:;", "f0,1;", "h0,1;", "k0,0;", "m0,0;", "a18;", "c18;", "r;", "t;", "g0+1;", "g0-1;",
            "l0+0;", "l0-0;", "b18,;", "g0,,1;", "g,0,1;", "g 0,1;", " g0,1;", "G0,1;", "L0,0;", "B18;", "S;"};
        for (String text : wrong) {
            dueFault(text, 0, 1);
            dueFault("g1,5;" + text, 5, 1);
        }
        dueFault("g1,5; ", 5, 1);
        dueFault("g1,5;;", 5, 1);
    }

    /** A text that is not typed to its end has its last order's fault, at each length. */
    private static void promise37CutOffAnywhere() {
        String text = "g0,400;l17,6;b18;g1,1;";
        int[] ends = {0, 7, 13, 17, 22};
        for (int length = 0; length <= text.length(); length++) {
            int start = 0;
            for (int end : ends) {
                start = end <= length ? end : start;
            }
            boolean whole = start == length;
            dueFault(text.substring(0, length), whole ? NONE : start, whole ? NONE : 1);
        }
        dueNoFault("g0,400;g0,400;g0,400;g0,400;g0,400;g0,400;g0,400;g0,400;g00;".substring(0, 56) + "b18;");
        dueFault("g0,400;g0,400;g0,400;g0,400;g0,400;g0,400;g0,400;g0,400;b018;", 56, 1);
    }

    private static void promise37FirstAndLastMemberAndTool() {
        dueNoFault("g0,1;");
        dueNoFault("g7,1;");
        dueNoFault("g8,1;");
        dueFault("g9,1;", 0, 3);
        dueFault("g10,1;", 0, 2);
        dueFault("g999,1;", 0, 2);
        dueNoFault("l0,0;");
        dueNoFault("l17,7;");
        dueFault("l0,8;", 0, 3);
        dueFault("l0,9;", 0, 3);
        dueFault("l0,10;", 0, 2);
        dueFault("l19,0;", 0, 3);
        dueFault("l20,0;", 0, 2);
        dueFault("l999,999;", 0, 2);
        dueFault("b19;", 0, 3);
        dueFault("b20;", 0, 2);
        dueFault("b999;", 0, 2);
        ToolShed empty = new ToolShed();
        Check.type(empty, "g0,1;");
        CHECK.due("37: without members", 2, empty.fault(1));
        empty.member();
        CHECK.due("37: with one", NONE, empty.fault(1));
    }

    private static void promise37LeastAndMostQuarters() {
        dueFault("g0,0;", 0, 3);
        dueFault("g0,000;", 0, 3);
        dueNoFault("g0,1;");
        dueNoFault("g0,400;");
        dueFault("g0,401;", 0, 3);
        dueFault("g0,999;", 0, 3);
    }

    /** Not of the form is told rather than none such, and none such rather than not possible otherwise. */
    private static void promise37ReasonOfSeveral() {
        dueFault("g10,0", 0, 1);
        dueFault("g10,0000;", 0, 1);
        dueFault("g10,0;", 0, 2);
        dueFault("g10,401;", 0, 2);
        dueFault("g9,0;", 0, 3);
        dueFault("l20,9;", 0, 2);
        dueFault("l19,10;", 0, 2);
        dueFault("l19,9;", 0, 3);
        dueFault("l19,9", 0, 1);
        dueFault("b20", 0, 1);
        dueFault("s", 0, 1);
    }

    private static void promise37FirstFaultOfSeveral() {
        dueFault("s;b20;x", 0, 3);
        dueFault("b20;s;x", 0, 2);
        dueFault("x;s;b20;", 0, 1);
        dueFault("g0,1;b0;b20;", 5, 3);
        dueFault("g0,1;b20;b0;", 5, 2);
        dueFault("g0,1;b18;g0;b20;", 9, 1);
    }

    private static void promise37FirstAndLastPosition() {
        String nine = "g0,11;g1,11;g2,11;g3,11;g4,11;g5,11;g6,11;g7,11;g8,11;";
        dueNoFault(nine + "g0,22;");
        dueFault("x", 0, 1);
        dueFault(nine + "g0,1;x", 59, 1);
        dueFault(nine + "g0,1;;", 59, 1);
        dueFault(nine + "b18;s;", 58, 3);
        dueFault(nine + "b18;b;", 58, 1);
        dueFault(nine + "g9,10;", 54, 3);
        dueFault(nine + "g10,1;", 54, 2);
    }

    private static void promise37WhatBorrowTells() {
        dueNoFault("l0,0;l1,0;l2,0;");
        dueFault("l0,0;l1,0;l2,0;l3,0;", 15, 3);
        dueNoFault("l0,0;l1,0;l2,0;b1;l3,0;");
        dueFault("l0,7;l1,7;l2,7;", 10, 3);
        dueFault("l0,0;l0,1;", 5, 3);
        dueNoFault("l0,0;b0;l0,1;");
        ToolShed owing = typed("g0,19;l0,0;");
        owing.pass(30);
        CHECK.due("37: one quarter is open", 6, owing.fault(0));
        ToolShed paid = typed("g0,20;l0,0;");
        paid.pass(30);
        CHECK.due("37: nothing is open", NONE, paid.fault(0));
    }

    private static void promise37WhatGiveBackTells() {
        dueNoFault("b18;");
        dueFault("b18;b18;", 4, 3);
        dueNoFault("b18;l18,0;b18;");
        dueFault("b0;", 0, 3);
        ToolShed late = typed("b18;l18,7;");
        late.pass(8);
        CHECK.due("37: a late day is charged", 4, late.fault(0));
        late.give(7, 1);
        CHECK.due("37: and paid by credit", NONE, late.fault(0));
        ToolShed lost = typed("b18;");
        lost.lose(18);
        CHECK.dueText("37: lost", "0 3", lost.fault(0) + " " + lost.fault(1));
    }

    private static void promise37WhatGiveTells() {
        ToolShed shed = typed("g0,5;g9,5;");
        CHECK.dueText("37: gone", "5 3", shed.fault(0) + " " + shed.fault(1));
        ToolShed more = Check.shedOf(9);
        Check.type(more, "g9,5;");
        CHECK.dueText("37: nine members", "0 2", more.fault(0) + " " + more.fault(1));
        more.member();
        CHECK.due("37: ten members", NONE, more.fault(0));
        more.undo();
        CHECK.due("37: nine members again", 2, more.fault(1));
    }

    private static void promise37WhatSharpenTells() {
        dueFault("s;", 0, 3);
        ToolShed dull = Check.shedOf(2);
        dull.tool(CUTTER, 1, 50);
        Check.wearOnce(dull, 0);
        Check.type(dull, "s;s;");
        CHECK.dueText("37: sharp behind one", "2 3", dull.fault(0) + " " + dull.fault(1));
        dull.set(4, 1000);
        CHECK.due("37: dull behind one", NONE, dull.fault(0));
        dull.away(0, 1);
        dull.away(1, 1);
        CHECK.dueText("37: nobody is there", "0 3", dull.fault(0) + " " + dull.fault(1));
        ToolShed none = new ToolShed();
        Check.type(none, "s;");
        CHECK.dueText("37: no member, which is no number of the order", "0 3", none.fault(0) + " " + none.fault(1));
    }

    private static void promise38NoneAndThirtyOrders() {
        new Twins(CHECK, TextsEdgesTest::fullShed).dueUndone("38: no orders", 0, ToolShed::play);
        new Twins(CHECK, () -> typed("b18;")).dueUndone("38: one order", 1, ToolShed::play);
        String thirty = "s;s;s;s;s;s;s;s;s;s;s;s;s;s;s;s;s;s;s;s;s;s;s;s;s;s;s;s;s;s;";
        new Twins(CHECK, () -> typed(thirty)).dueNotPossible("38: thirty, and no cutter is dull", ToolShed::play);
        Twins dull = new Twins(CHECK, () -> {
            ToolShed shed = Check.shedOf(10);
            shed.tool(CUTTER, 1, 50);
            Check.wearOnce(shed, 0);
            shed.set(5, 0);
            Check.type(shed, thirty);
            return shed;
        });
        dull.dueUndone("38: thirty orders", 30, ToolShed::play);
        dueGivenByTenOrders();
    }

    private static void dueGivenByTenOrders() {
        ToolShed shed = typed("g0,11;g1,11;g2,11;g3,11;g4,11;g5,11;g6,11;g7,11;g8,11;g0,22;");
        CHECK.due("38: ten orders in a full text", 10, shed.play());
        CHECK.dueText("38: given", "33 11 11 0", shed.memberOf(0, 1) + " " + shed.memberOf(1, 1) + " "
                + shed.memberOf(8, 1) + " " + shed.memberOf(9, 1));
        shed.undo();
        CHECK.due("38: undone, all of them", 0, shed.account(1));
    }

    private static void promise38AllOrNothing() {
        String[] texts = {"b18;g0,5;l0,0;x", "b18;g0,5;l0,0;g10,1;", "b18;g0,5;l0,0;b19;", "g0,400;s;", "b18;b18;"};
        for (String text : texts) {
            new Twins(CHECK, () -> typed(text)).dueNotPossible("38: play of " + text, ToolShed::play);
        }
    }

    private static void promise38TextStays() {
        ToolShed shed = typed("g0,5;");
        for (int times = 1; times <= 6; times++) {
            CHECK.due("38: one order", 1, shed.play());
            CHECK.due("38: the text stays", 5, shed.count(11));
            CHECK.due("38: given", 5 * times, shed.memberOf(0, 1));
        }
        CHECK.due("38: states", 4, shed.count(10));
        for (int left = 3; left >= 0; left--) {
            CHECK.due("38: undone", left, shed.undo());
            CHECK.due("38: given", 10 + 5 * left, shed.memberOf(0, 1));
        }
        CHECK.due("38: the older ones are dropped", Check.NOT_POSSIBLE, shed.undo());
        CHECK.due("38: the text stays", 5, shed.count(11));
    }
}
