import java.util.ArrayList;
import java.util.List;
import java.util.Map;
import java.util.Random;
import java.util.TreeMap;

/**
 * Runs of at most 512 calls, each answered by ToolShed and by Model, which must agree; at the end of about half of the
 * runs the sums of the members must hold. The seeds are fixed, so that every run is the same each time.
 */
public final class RandomRunsTest {
    private static final int RUNS = 2000;
    private static final int CALLS = 512;
    private static final int CALLS_FOR_A_TEXT = 70;
    private static final int CALLS_FOR_SUMS = 110;
    private static final int MOST_PRINTED = 20;

    private static final Calls OF_SHED = new Calls(ToolShed.class);
    private static final Calls OF_MODEL = new Calls(Model.class);
    private static final Map<String, int[]> MET = new TreeMap<>();

    private final Random random;
    private final ToolShed shed = new ToolShed();
    private final Model model = new Model();
    private final List<String> calls = new ArrayList<>();
    private final int style;
    private final boolean asksSums;

    private RandomRunsTest(int seed) {
        random = new Random(seed);
        style = seed % 4;
        asksSums = seed / 4 % 2 == 0;
    }

    public static void main(String[] args) {
        Check check = new Check();
        check.due("calls of the model", OF_SHED.number(), OF_MODEL.number());
        int printed = 0;
        for (int run = 0; run < RUNS && printed < MOST_PRINTED; run++) {
            String wrong = new RandomRunsTest(run).run();
            check.due("run " + run + " " + wrong, 1, wrong.isEmpty() ? 1 : 0);
            printed += wrong.isEmpty() ? 0 : 1;
        }
        for (String name : OF_SHED.names()) {
            int[] met = MET.getOrDefault(name, new int[5]);
            check.due(name + " was answered without an error", 1, met[0] > 0 ? 1 : 0);
        }
        if (args.length > 0) {
            MET.forEach((name, met) -> System.out.println(name + " answers " + met[0] + ", invalid " + met[1]
                    + ", not possible " + met[2] + ", limit " + met[3] + ", not found " + met[4]));
        }
        check.close("RandomRunsTest");
    }

    private String run() {
        int start = style == 3 ? 0 : 4 + random.nextInt(6);
        int most = CALLS - CALLS_FOR_A_TEXT - (asksSums ? CALLS_FOR_SUMS : 0);
        String wrong = "";
        for (int i = 0; i < start && wrong.isEmpty(); i++) {
            wrong = call("member");
        }
        for (int i = 0; i < 2 * start && wrong.isEmpty(); i++) {
            wrong = call("tool", random.nextInt(2), 1 + random.nextInt(60), random.nextInt(51));
        }
        while (calls.size() < most && wrong.isEmpty()) {
            wrong = step();
        }
        return wrong.isEmpty() && asksSums ? brokenSum() : wrong;
    }

    private String call(String name, int... arguments) {
        String told = Calls.told(name, arguments);
        calls.add(told);
        int got = OF_SHED.answer(shed, name, arguments);
        int want = OF_MODEL.answer(model, name, arguments);
        int[] met = MET.computeIfAbsent(name, n -> new int[5]);
        met[got >= 0 ? 0 : -1000000 - got]++;
        return got == want ? "" : told + " answered " + got + ", due is " + want + " behind " + calls;
    }

    /** For each member given + shared = paid + credit + handed on, and nothing is open beside credit. */
    private String brokenSum() {
        for (int i = 0; i < 10 && model.memberOf(i, 0) >= 0; i++) {
            int in = shed.memberOf(i, 1) + shed.memberOf(i, 2);
            int credit = shed.memberOf(i, 3);
            int used = credit + shed.memberOf(i, 4);
            int open = 0;
            for (int kind = 0; kind < 3; kind++) {
                used += shed.memberOf(i, 5 + kind);
                open += shed.memberOf(i, 8 + kind);
            }
            if (in != used || open > 0 && credit > 0) {
                return "sum of member " + i + " is broken behind " + calls;
            }
        }
        return "";
    }

    private int member() {
        int members = model.count(0) + model.count(1) + model.count(2);
        return random.nextInt(40) == 0 ? random.nextInt(13) - 1 : random.nextInt(Math.max(1, members));
    }

    private int tool() {
        int tools = 0;
        for (int what = 3; what <= 7; what++) {
            tools += model.count(what);
        }
        return random.nextInt(40) == 0 ? random.nextInt(24) - 2 : random.nextInt(Math.max(1, tools));
    }

    private int toolAt(int place) {
        int tool = tool();
        for (int i = 0; i < 40 && model.toolOf(tool, 3) != place; i++) {
            tool = random.nextInt(20);
        }
        return tool;
    }

    /** A number of a range, now and then one beside it. */
    private int in(int least, int most) {
        switch (random.nextInt(24)) {
            case 0: return least;
            case 1: return most;
            case 2: return random.nextInt(3) == 0 ? least - 1 : least;
            case 3: return random.nextInt(3) == 0 ? most + 1 : most;
            default: return least + random.nextInt(most - least + 1);
        }
    }

    private String step() {
        int kind = random.nextInt(100);
        if (kind < 40) {
            return question();
        }
        if (kind < 58) {
            return lending();
        }
        if (kind < 72) {
            return deciding();
        }
        if (kind < 90) {
            return members();
        }
        return style == 1 || random.nextInt(3) == 0 ? text() : time();
    }

    private String members() {
        switch (random.nextInt(16)) {
            case 0: return random.nextInt(4) == 0 ? call("member") : call("undo");
            case 1: return call("away", member(), in(0, 1));
            case 2: return call("away", member(), 0);
            case 3: return style == 2 || random.nextInt(6) == 0 ? call("leave", member()) : call("sharpen");
            case 4: return setting();
            case 5: return call("swap", member(), member());
            case 6: return call("sharpen");
            case 7: case 8: return call("give", member(), random.nextInt(3) == 0 ? in(1, 400) : in(1, 20));
            default: return payDebts();
        }
    }

    private String payDebts() {
        int debtor = model.debtorAt(0);
        return debtor < 0 ? call("give", member(), in(1, 9)) : call("give", debtor, in(15, 60));
    }

    private String setting() {
        int[][] ranges = {{0, 400}, {1, 60}, {0, 20}, {0, 40}, {0, 1000}, {0, 100}, {1, 60}};
        int what = in(0, 6);
        if (what < 0 || what > 6) {
            return call("set", what, 1);
        }
        return call("set", what, what == 0 && random.nextInt(3) > 0 ? in(0, 20) : in(ranges[what][0], ranges[what][1]));
    }

    private String lending() {
        switch (random.nextInt(9)) {
            case 0: return call("tool", in(0, 1), in(1, 400), in(0, 50));
            case 1: return call("hang", toolAt(0), in(0, 2), in(0, 3));
            case 2: return call("lendOut", toolAt(0), in(0, 3), in(1, 60), in(0, 40));
            case 3: return call("comeBack", toolAt(3));
            case 4: case 5: return call("giveBack", toolAt(1));
            default: return call("borrow", toolAt(0), member());
        }
    }

    private String deciding() {
        switch (random.nextInt(12)) {
            case 0: case 1: return call("lose", toolAt(1));
            case 2: return random.nextInt(3) == 0 ? call("find", toolAt(2)) : call("lose", toolAt(1));
            case 3: case 4: case 5: return sayOfPanel();
            case 6: return call("say", toolAt(2), member(), in(0, 2));
            case 7: case 8: return proposing();
            default: return call("vote", proposed(), member(), random.nextInt(30) == 0 ? 2 : random.nextInt(2));
        }
    }

    private String sayOfPanel() {
        int tool = toolAt(2);
        int member = model.panelAt(tool, random.nextInt(3), 0);
        return call("say", tool, member < 0 ? member() : member, random.nextInt(3));
    }

    private String proposing() {
        int tool = tool();
        return call("propose", tool, in(1, 400), in(1, Math.max(1, model.toolOf(tool, 2))));
    }

    private int proposed() {
        int tool = tool();
        for (int i = 0; i < 40 && model.proposalOf(tool, 0) < 0; i++) {
            tool = random.nextInt(20);
        }
        return tool;
    }

    private String time() {
        switch (random.nextInt(6)) {
            case 0: return call("pass", in(1, 60));
            case 1: return call("undo");
            default: return call("pass", in(1, style == 2 ? 20 : 6));
        }
    }

    private String text() {
        String wrong = call("clearText");
        StringBuilder orders = new StringBuilder();
        for (int i = random.nextInt(7); i > 0; i--) {
            orders.append(order());
        }
        for (int i = 0; i < orders.length() && wrong.isEmpty(); i++) {
            wrong = call("type", orders.charAt(i));
        }
        wrong = wrong.isEmpty() ? call("fault", 0) : wrong;
        wrong = wrong.isEmpty() ? call("fault", 1) : wrong;
        return wrong.isEmpty() ? call("play") : wrong;
    }

    private String order() {
        String order;
        switch (random.nextInt(4)) {
            case 0: order = "g" + number(member()) + "," + number(in(1, random.nextInt(30) == 0 ? 400 : 40)); break;
            case 1: order = "l" + number(toolAt(0)) + "," + number(member()); break;
            case 2: order = "b" + number(toolAt(1)); break;
            default: order = random.nextInt(3) == 0 ? "s" : "g" + number(member()) + "," + number(in(1, 9));
        }
        StringBuilder told = new StringBuilder(order).append(';');
        if (random.nextInt(25) == 0) {
            told.setCharAt(random.nextInt(told.length()), ";,0g sb".charAt(random.nextInt(7)));
        }
        return told.toString();
    }

    private String number(int number) {
        String digits = "" + Math.abs(number);
        return random.nextInt(8) == 0 ? "0" + digits : digits;
    }

    private String question() {
        switch (random.nextInt(16)) {
            case 0: return call("account", in(1, 11));
            case 1: return call("debtorAt", in(0, 9));
            case 2: return call("toolOf", tool(), in(0, 8));
            case 3: return call("bits", tool());
            case 4: return call("dullBehind", tool(), in(1, 200));
            case 5: return call("mean", in(0, 1));
            case 6: return call("hookAt", in(0, 2), in(0, 3));
            case 7: return call("turnAt", in(0, 9));
            case 8: return call("dullAt", in(0, 10));
            case 9: return call("panelAt", toolAt(2), in(0, 2), in(0, 1));
            case 10: return call("proposalOf", proposed(), in(0, 4));
            case 11: return call("count", random.nextInt(2) == 0 ? in(0, 11) : in(20, 26));
            case 12: return call("fault", in(0, 1));
            case 13: return call("toolOf", tool(), in(3, 6));
            default: return call("memberOf", member(), in(0, 13));
        }
    }
}
