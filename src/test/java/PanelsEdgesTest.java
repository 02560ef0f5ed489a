/** Promises 23 to 26 at their edges: two and three who are there, each way to decide, the least and the most value. */
public final class PanelsEdgesTest {
    private static final Check CHECK = new Check();
    private static final int PLAIN = 1;

    public static void main(String[] args) {
        promise23TwoAndThreeWhoAreThere();
        promise23EqualOnesOfTen();
        promise23OnePanelLess();
        promise23InEachPlace();
        promise24EachThreeWords();
        promise24EachOrderOfThePanel();
        promise24LeastAndMostValue();
        promise24CreditPaysWhatItCan();
        promise24OnceEach();
        promise24InEachPlace();
        promise25BehindEachNumberOfWords();
        promise25InEachPlace();
        promise26FirstAndLast();
        promise26InEachPlace();
        CHECK.close("PanelsEdgesTest");
    }

    private static ToolShed borrowed(int members, int value) {
        ToolShed shed = Check.shedOf(members);
        shed.tool(PLAIN, value, 10);
        shed.borrow(0, 0);
        return shed;
    }

    private static ToolShed lost(int members, int value) {
        ToolShed shed = borrowed(members, value);
        shed.lose(0);
        return shed;
    }

    private static String panel(ToolShed shed, int tool) {
        return shed.panelAt(tool, 0, 0) + " " + shed.panelAt(tool, 1, 0) + " " + shed.panelAt(tool, 2, 0);
    }

    private static void promise23TwoAndThreeWhoAreThere() {
        new Twins(CHECK, () -> borrowed(1, 5)).dueNotPossible("23: no other one", shed -> shed.lose(0));
        new Twins(CHECK, () -> borrowed(3, 5)).dueNotPossible("23: two others", shed -> shed.lose(0));
        new Twins(CHECK, () -> borrowed(4, 5)).dueUndone("23: three others", 1, shed -> shed.lose(0));
        Twins away = new Twins(CHECK, () -> {
            ToolShed shed = borrowed(4, 5);
            shed.away(2, 1);
            return shed;
        });
        away.dueNotPossible("23: two others and an away one", shed -> shed.lose(0));
        Twins gone = new Twins(CHECK, () -> {
            ToolShed shed = borrowed(5, 5);
            shed.leave(4);
            shed.away(0, 1);
            return shed;
        });
        gone.dueUndone("23: three others and a gone one, the loser is away", 1, shed -> shed.lose(0));
        ToolShed owing = borrowed(4, 5);
        owing.pass(30);
        CHECK.due("23: what they owe is no matter", 1, owing.lose(0));
    }

    private static void promise23EqualOnesOfTen() {
        ToolShed shed = Check.shedOf(10);
        shed.tool(PLAIN, 1, 0);
        String[] panels = {"0 1 2", "3 4 5", "6 7 8", "0 1 2", "3 4 5"};
        for (String due : panels) {
            shed.borrow(0, 9);
            CHECK.due("23: the lowest number of " + due, due.charAt(0) - '0', shed.lose(0));
            CHECK.dueText("23: fewest panels, then lowest numbers", due, panel(shed, 0));
            shed.find(0);
        }
        shed.borrow(0, 0);
        CHECK.due("23: the first one is the loser", 6, shed.lose(0));
        CHECK.dueText("23: the last one has none so far", "6 7 9", panel(shed, 0));
        CHECK.dueText("23: panels so far", "2 2 1", shed.memberOf(0, 11) + " " + shed.memberOf(5, 11) + " "
                + shed.memberOf(9, 11));
    }

    private static void promise23OnePanelLess() {
        ToolShed shed = borrowed(5, 1);
        shed.lose(0);
        CHECK.dueText("23: the first panel", "1 2 3", panel(shed, 0));
        shed.find(0);
        shed.borrow(0, 0);
        shed.lose(0);
        CHECK.dueText("23: 4 has one panel less than the others", "1 2 4", panel(shed, 0));
        shed.find(0);
        shed.borrow(0, 0);
        shed.lose(0);
        CHECK.dueText("23: 3 and 4 have one less than 1 and 2", "1 3 4", panel(shed, 0));
        shed.undo();
        CHECK.due("23: undone, it counts no more", 2, shed.memberOf(1, 11));
    }

    private static void promise23InEachPlace() {
        Twins places = new Twins(CHECK, Check::eachPlace);
        places.dueNotPossible("23: in the shed", shed -> shed.lose(0));
        places.dueUndone("23: with a member", 1, shed -> shed.lose(1));
        places.dueNotPossible("23: lost already", shed -> shed.lose(2));
        places.dueNotPossible("23: at another shed", shed -> shed.lose(3));
        places.dueNotPossible("23: gone", shed -> shed.lose(4));
    }

    /** The words of the three in turn; the second or the third one decides. */
    private static void promise24EachThreeWords() {
        for (int words = 0; words < 27; words++) {
            int first = words / 9;
            int second = words / 3 % 3;
            int third = words % 3;
            ToolShed shed = lost(6, 11);
            CHECK.due("24: one word", 3, shed.say(0, 1, first));
            CHECK.due("24: two words", first == second ? first : 3, shed.say(0, 2, second));
            if (first == second) {
                CHECK.due("24: it is over", Check.NOT_POSSIBLE, shed.say(0, 3, third));
            } else {
                int decided = third == first || third == second ? third : 2;
                CHECK.due("24: words " + first + second + third, decided, shed.say(0, 3, third));
            }
            CHECK.due("24: it is gone", 4, shed.toolOf(0, 3));
            CHECK.due("24: all of the value is charged", 11, shed.account(9));
        }
    }

    private static void promise24EachOrderOfThePanel() {
        int[][] orders = {{1, 2, 3}, {1, 3, 2}, {2, 1, 3}, {2, 3, 1}, {3, 1, 2}, {3, 2, 1}};
        for (int[] order : orders) {
            for (int word = 0; word < 3; word++) {
                ToolShed shed = lost(5, 9);
                CHECK.due("24: first", 3, shed.say(0, order[0], word));
                CHECK.due("24: second, unlike", 3, shed.say(0, order[1], (word + 1) % 3));
                CHECK.due("24: third, unlike both", 2, shed.say(0, order[2], (word + 2) % 3));
                CHECK.due("24: half and half of 9", 5, shed.memberOf(0, 9));
                ToolShed same = lost(5, 9);
                same.say(0, order[0], word);
                same.say(0, order[1], (word + 1) % 3);
                CHECK.due("24: third, like the first", word, same.say(0, order[2], word));
            }
        }
    }

    private static void promise24LeastAndMostValue() {
        int[] values = {1, 2, 3, 399, 400};
        int[] halves = {1, 1, 2, 200, 200};
        for (int i = 0; i < values.length; i++) {
            int value = values[i];
            CHECK.dueText("24: the member pays " + value, value + " " + value, paidBy(value, 0));
            CHECK.dueText("24: half and half of " + value, halves[i] + " " + value, paidBy(value, 2));
            CHECK.dueText("24: all pay " + value, (value + 3) / 4 + " " + value, paidBy(value, 1));
        }
    }

    /** What the first of four is charged, and all of them. */
    private static String paidBy(int value, int word) {
        ToolShed shed = lost(4, value);
        shed.say(0, 2, word);
        shed.say(0, 3, word);
        return shed.memberOf(0, 9) + " " + shed.account(9);
    }

    private static void promise24CreditPaysWhatItCan() {
        for (int credit = 9; credit <= 11; credit++) {
            ToolShed shed = borrowed(4, 10);
            shed.give(0, credit);
            shed.lose(0);
            shed.say(0, 1, 0);
            shed.say(0, 2, 0);
            CHECK.due("24: credit left of " + credit, Math.max(0, credit - 10), shed.memberOf(0, 3));
            CHECK.due("24: paid losses of it", Math.min(10, credit), shed.memberOf(0, 6));
            CHECK.due("24: open losses of it", Math.max(0, 10 - credit), shed.memberOf(0, 9));
        }
    }

    private static void promise24OnceEach() {
        Twins said = new Twins(CHECK, () -> {
            ToolShed shed = lost(6, 5);
            shed.say(0, 1, 0);
            shed.say(0, 3, 2);
            return shed;
        });
        for (int word = 0; word < 3; word++) {
            int its = word;
            said.dueNotPossible("24: the first has said something", shed -> shed.say(0, 1, its));
            said.dueNotPossible("24: the last has said something", shed -> shed.say(0, 3, its));
            said.dueNotPossible("24: the loser", shed -> shed.say(0, 0, its));
            said.dueNotPossible("24: one behind the panel", shed -> shed.say(0, 4, its));
            said.dueNotPossible("24: the last member", shed -> shed.say(0, 5, its));
            said.dueUndone("24: the one who has not", its == 1 ? 2 : its, shed -> shed.say(0, 2, its));
        }
    }

    private static void promise24InEachPlace() {
        Twins places = new Twins(CHECK, Check::eachPlace);
        places.dueNotPossible("24: in the shed", shed -> shed.say(0, 2, 0));
        places.dueNotPossible("24: with a member", shed -> shed.say(1, 2, 0));
        places.dueUndone("24: lost", 3, shed -> shed.say(2, shed.panelAt(2, 0, 0), 0));
        places.dueNotPossible("24: at another shed", shed -> shed.say(3, 2, 0));
        places.dueNotPossible("24: gone, by one who has not said anything", shed -> shed.say(4, 2, 0));
        ToolShed found = lost(4, 5);
        found.find(0);
        CHECK.due("24: found", Check.NOT_POSSIBLE, found.say(0, 1, 0));
    }

    private static void promise25BehindEachNumberOfWords() {
        for (int words = 0; words < 3; words++) {
            int said = words;
            Twins lost = new Twins(CHECK, () -> {
                ToolShed shed = lost(5, 5);
                for (int i = 0; i < said; i++) {
                    shed.say(0, 3 - i, i);
                }
                return shed;
            });
            lost.dueUndone("25: behind " + words + " words", words, shed -> shed.find(0));
        }
        ToolShed shed = Check.shedOf(4);
        shed.tool(PLAIN, 5, 50);
        shed.borrow(0, 0);
        shed.lose(0);
        shed.pass(60);
        shed.find(0);
        CHECK.dueText("25: in the shed, as dull as it was, nothing charged", "0 1000 0", shed.toolOf(0, 3) + " "
                + shed.toolOf(0, 6) + " " + shed.account(9));
        CHECK.due("25: it can be hung", 1, shed.hang(0, 1, 0));
        CHECK.due("25: the panel is over", Check.NOT_FOUND, shed.panelAt(0, 0, 0));
    }

    private static void promise25InEachPlace() {
        Twins places = new Twins(CHECK, Check::eachPlace);
        places.dueNotPossible("25: in the shed", shed -> shed.find(0));
        places.dueNotPossible("25: with a member", shed -> shed.find(1));
        places.dueUndone("25: lost", 0, shed -> shed.find(2));
        places.dueNotPossible("25: at another shed", shed -> shed.find(3));
        places.dueNotPossible("25: gone", shed -> shed.find(4));
    }

    private static void promise26FirstAndLast() {
        Twins said = new Twins(CHECK, () -> {
            ToolShed shed = lost(10, 5);
            shed.say(0, 3, 0);
            shed.say(0, 1, 2);
            return shed;
        });
        int[] words = {2, Check.NOT_FOUND, 0};
        for (int index = 0; index < 3; index++) {
            int at = index;
            said.dueUnchanged("26: member " + index, index + 1, shed -> shed.panelAt(0, at, 0));
            said.dueUnchanged("26: word of " + index, words[index], shed -> shed.panelAt(0, at, 1));
        }
        said.dueInvalid("26: behind the last", shed -> shed.panelAt(0, 3, 0));
        Twins ends = new Twins(CHECK, () -> {
            ToolShed shed = Check.shedOf(10);
            shed.tool(PLAIN, 1, 0);
            for (int member = 1; member < 8; member++) {
                shed.away(member, 1);
            }
            shed.borrow(0, 8);
            shed.away(4, 0);
            shed.lose(0);
            return shed;
        });
        ends.dueUnchanged("26: the first member of ten", 0, shed -> shed.panelAt(0, 0, 0));
        ends.dueUnchanged("26: one between", 4, shed -> shed.panelAt(0, 1, 0));
        ends.dueUnchanged("26: the last member of ten", 9, shed -> shed.panelAt(0, 2, 0));
        ends.dueUndone("26: who says something", 3, shed -> shed.say(0, 9, 0));
    }

    private static void promise26InEachPlace() {
        Twins places = new Twins(CHECK, Check::eachPlace);
        int[] tools = {0, 1, 3, 4};
        for (int tool : tools) {
            for (int index = 0; index < 3; index++) {
                int at = index;
                places.dueNotFound("26: member, place " + tool, shed -> shed.panelAt(tool, at, 0));
                places.dueNotFound("26: word, place " + tool, shed -> shed.panelAt(tool, at, 1));
            }
            places.dueInvalid("26: index 3, place " + tool, shed -> shed.panelAt(tool, 3, 0));
            places.dueInvalid("26: what 2, place " + tool, shed -> shed.panelAt(tool, 0, 2));
        }
        places.dueNotFound("26: said nothing", shed -> shed.panelAt(2, 0, 1));
    }
}
