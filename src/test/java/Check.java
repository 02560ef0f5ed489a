/** Counts the answers that are as due, and prints every other one. */
final class Check {
    static final int INVALID = -1000001;
    static final int NOT_POSSIBLE = -1000002;
    static final int LIMIT = -1000003;
    static final int NOT_FOUND = -1000004;

    private int right;
    private int wrong;

    void due(String what, long want, long got) {
        if (want == got) {
            right++;
        } else {
            wrong++;
            System.out.println(what + " answered " + got + ", due is " + want);
        }
    }

    /** Prints the sum and ends the program, with exit code 1 if an answer was not as due. */
    void close(String name) {
        System.out.println(name + ": " + right + " answers as due, " + wrong + " not");
        System.exit(wrong == 0 && right > 0 ? 0 : 1);
    }

    static ToolShed shedOf(int members) {
        ToolShed shed = new ToolShed();
        for (int i = 0; i < members; i++) {
            shed.member();
        }
        return shed;
    }

    /**
     * Six members and a plain tool in each place: 0 in the shed, 1 with member 5, 2 lost by 5 with a panel of 0, 3 and
     * 4, 3 at shed 3, and 4 gone, of which 0 and 1 said that member 4 pays, who has 3 quarters open.
     */
    static ToolShed eachPlace() {
        ToolShed shed = shedOf(6);
        for (int tool = 0; tool < 5; tool++) {
            shed.tool(1, 3, 10);
        }
        shed.borrow(4, 4);
        shed.lose(4);
        shed.say(4, 0, 0);
        shed.say(4, 1, 0);
        shed.borrow(1, 5);
        shed.borrow(2, 5);
        shed.lose(2);
        shed.lendOut(3, 3, 1, 7);
        return shed;
    }

    static void type(ToolShed shed, String text) {
        for (int i = 0; i < text.length(); i++) {
            shed.type(text.charAt(i));
        }
    }

    static void pass(ToolShed shed, int days) {
        for (int left = days; left > 0; left -= 60) {
            shed.pass(Math.min(left, 60));
        }
    }

    /** Lends a tool to another shed and takes it back on the same day, so that it is as dull as behind one day. */
    static void wearOnce(ToolShed shed, int tool) {
        shareFee(shed, tool, 0);
    }

    /** Shares up to 40 quarters as a gain among all members, by a tool that is lent to another shed for a day. */
    static void shareFee(ToolShed shed, int tool, int quarters) {
        shed.lendOut(tool, 0, 1, quarters);
        shed.comeBack(tool);
    }

    /** Asks a member for the numbers from..to, told in one line. */
    static String numbers(ToolShed shed, int member, int from, int to) {
        StringBuilder line = new StringBuilder();
        for (int what = from; what <= to; what++) {
            line.append(what == from ? "" : " ").append(shed.memberOf(member, what));
        }
        return line.toString();
    }

    void dueText(String what, String want, String got) {
        if (!want.equals(got)) {
            System.out.println(what + " answered " + got + ", due is " + want);
        }
        due(what + " as a whole", 1, want.equals(got) ? 1 : 0);
    }
}
