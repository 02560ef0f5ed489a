/** Promises 10 to 18 at their edges: no tools and twenty, free and full walls, the last taken, the first refused. */
public final class ToolsEdgesTest {
    private static final Check CHECK = new Check();
    private static final int CUTTER = 0;
    private static final int PLAIN = 1;

    public static void main(String[] args) {
        promise10TwentyHaveBeenAdded();
        promise10LeastAndMostOfATool();
        promise11WhichKindsAWallTakes();
        promise11AWallFillsUp();
        promise11AllHooksAreTaken();
        promise11OnlyWhatIsInTheShed();
        promise12TheThirdToolIsTheLast();
        promise12LostOnesCount();
        promise12OneQuarterOpen();
        promise12AwayAndGone();
        promise12OnlyWhatIsInTheShed();
        promise12LeavesItsHook();
        promise13LateDays();
        promise13DaysItWasAway();
        promise13WithoutWearInFloats();
        promise13OnlyWhatAMemberHas();
        promise14NotFound();
        promise14ThousandthsAreCut();
        promise15BitsWhereverItIs();
        promise16FirstAndLastDay();
        promise16GoneToolIsRefused();
        promise17NoneAndTwenty();
        promise17InDoubles();
        promise18EachHook();
        CHECK.close("ToolsEdgesTest");
    }

    private static ToolShed withTools(int members, int tools) {
        ToolShed shed = Check.shedOf(members);
        for (int tool = 0; tool < tools; tool++) {
            shed.tool(PLAIN, 4, 10);
        }
        return shed;
    }

    private static void promise10TwentyHaveBeenAdded() {
        new Twins(CHECK, () -> withTools(1, 19)).dueUndone("10: the twentieth", 19, shed -> shed.tool(CUTTER, 1, 0));
        Twins full = new Twins(CHECK, () -> withTools(1, 20));
        full.dueUnchanged("10: the 21st", Check.LIMIT, shed -> shed.tool(CUTTER, 1, 0));
        full.dueUnchanged("10: the 21st, of the most", Check.LIMIT, shed -> shed.tool(PLAIN, 400, 50));
        ToolShed shed = withTools(4, 20);
        shed.borrow(0, 0);
        shed.lose(0);
        shed.say(0, 1, 0);
        shed.say(0, 2, 0);
        CHECK.due("10: one is gone", 1, shed.count(7));
        CHECK.due("10: gone ones have been added too", Check.LIMIT, shed.tool(PLAIN, 1, 0));
        ToolShed undone = withTools(1, 20);
        undone.undo();
        CHECK.due("10: undone, the twentieth is added anew", 19, undone.tool(CUTTER, 400, 50));
        CHECK.dueText("10: it is the new one", "0 400 50", undone.toolOf(19, 0) + " " + undone.toolOf(19, 1) + " "
                + undone.toolOf(19, 2));
    }

    private static void promise10LeastAndMostOfATool() {
        int[][] ends = {{0, 1, 0}, {1, 400, 50}};
        for (int[] end : ends) {
            ToolShed shed = new ToolShed();
            CHECK.due("10: tool", 0, shed.tool(end[0], end[1], end[2]));
            int[] due = {end[0], end[1], end[2], 0, Check.NOT_FOUND, Check.NOT_FOUND, 1000, 0, Check.NOT_FOUND};
            for (int what = 0; what < due.length; what++) {
                CHECK.due("10: toolOf(0, " + what + ")", due[what], shed.toolOf(0, what));
            }
        }
    }

    private static void promise11WhichKindsAWallTakes() {
        for (int kind = 0; kind < 2; kind++) {
            int its = kind;
            Twins one = new Twins(CHECK, () -> {
                ToolShed shed = new ToolShed();
                shed.tool(its, 1, 0);
                return shed;
            });
            one.dueUndone("11: kind " + kind + " on its wall", 1, shed -> shed.hang(0, its, 3));
            one.dueUndone("11: kind " + kind + " on the wall of all", 1, shed -> shed.hang(0, 2, 0));
            one.dueNotPossible("11: kind " + kind + " on the other wall, first hook", shed -> shed.hang(0, 1 - its, 0));
            one.dueNotPossible("11: kind " + kind + " on the other wall, last hook", shed -> shed.hang(0, 1 - its, 3));
        }
    }

    private static void promise11AWallFillsUp() {
        for (int wall = 0; wall < 3; wall++) {
            ToolShed shed = new ToolShed();
            for (int hook = 0; hook < 4; hook++) {
                int tool = shed.tool(wall % 2, 1, 0);
                CHECK.due("11: wall " + wall + ", taken then", hook + 1, shed.hang(tool, wall, 3 - hook));
                CHECK.due("11: hangs already", Check.NOT_POSSIBLE, shed.hang(tool, wall, hook == 3 ? 0 : 2 - hook));
            }
            int one = shed.tool(wall % 2, 1, 0);
            for (int hook = 0; hook < 4; hook++) {
                CHECK.due("11: wall " + wall + " is full", Check.NOT_POSSIBLE, shed.hang(one, wall, hook));
            }
            shed.lendOut(2, 0, 1, 0);
            CHECK.due("11: a hook is free", 4, shed.hang(one, wall, 1));
        }
    }

    /** Cutters 0 to 3 and plain ones 4 to 11 hang; cutter 12 and plain 13 don't. */
    private static ToolShed hungFull() {
        ToolShed shed = new ToolShed();
        for (int tool = 0; tool < 14; tool++) {
            shed.tool(tool < 4 || tool == 12 ? CUTTER : PLAIN, 1, 0);
        }
        for (int tool = 0; tool < 12; tool++) {
            shed.hang(tool, tool / 4, tool % 4);
        }
        return shed;
    }

    private static void promise11AllHooksAreTaken() {
        Twins full = new Twins(CHECK, ToolsEdgesTest::hungFull);
        for (int hook = 0; hook < 12; hook++) {
            int at = hook;
            full.dueUnchanged("18: hook " + hook, hook, shed -> shed.hookAt(at / 4, at % 4));
            full.dueNotPossible("11: one more at hook " + hook, shed -> shed.hang(12 + (at / 4) % 2, at / 4, at % 4));
            full.dueUnchanged("14: its wall and hook", hook / 4 * 10 + hook % 4, shed -> shed.toolOf(at, 8));
        }
        full.dueNotPossible("11: hangs already, at its own hook", shed -> shed.hang(0, 0, 0));
    }

    private static void promise11OnlyWhatIsInTheShed() {
        Twins places = new Twins(CHECK, Check::eachPlace);
        places.dueUndone("11: in the shed", 1, shed -> shed.hang(0, 1, 0));
        places.dueNotPossible("11: with a member", shed -> shed.hang(1, 1, 0));
        places.dueNotPossible("11: lost", shed -> shed.hang(2, 1, 0));
        places.dueNotPossible("11: at another shed", shed -> shed.hang(3, 1, 0));
        places.dueNotPossible("11: gone", shed -> shed.hang(4, 1, 0));
    }

    private static ToolShed withBorrowed(int members, int tools, int borrowed) {
        ToolShed shed = withTools(members, tools);
        for (int tool = 0; tool < borrowed; tool++) {
            shed.borrow(tool, 0);
        }
        return shed;
    }

    private static void promise12TheThirdToolIsTheLast() {
        for (int has = 0; has < 3; has++) {
            int borrowed = has;
            Twins some = new Twins(CHECK, () -> withBorrowed(4, 4, borrowed));
            some.dueUndone("12: who has " + has, 7, shed -> shed.borrow(3, 0));
        }
        Twins three = new Twins(CHECK, () -> withBorrowed(4, 4, 3));
        three.dueNotPossible("12: who has three", shed -> shed.borrow(3, 0));
        three.dueUndone("12: another one", 7, shed -> shed.borrow(3, 1));
        ToolShed back = withBorrowed(4, 4, 3);
        back.giveBack(1);
        CHECK.due("12: two are left", 7, back.borrow(3, 0));
    }

    private static void promise12LostOnesCount() {
        Twins lost = new Twins(CHECK, () -> {
            ToolShed shed = withBorrowed(4, 4, 3);
            for (int tool = 0; tool < 3; tool++) {
                shed.lose(tool);
            }
            return shed;
        });
        lost.dueNotPossible("12: three lost ones", shed -> shed.borrow(3, 0));
        ToolShed gone = withBorrowed(4, 4, 3);
        gone.lose(0);
        gone.say(0, 1, 0);
        gone.say(0, 2, 0);
        gone.give(0, 4);
        CHECK.due("12: gone ones don't count", 7, gone.borrow(3, 0));
    }

    private static void promise12OneQuarterOpen() {
        for (int what = 0; what < 3; what++) {
            int kind = what;
            Twins owing = new Twins(CHECK, () -> owing(kind));
            owing.dueNotPossible("12: one quarter open of kind " + kind, shed -> shed.borrow(1, 0));
            ToolShed paid = owing(kind);
            paid.give(0, 1);
            CHECK.due("12: nothing open of kind " + kind, paid.count(9) + 7, paid.borrow(1, 0));
            CHECK.due("12: and no credit", 0, paid.memberOf(0, 3));
        }
    }

    /** Member 0 of four has one quarter open: of dues, of a late day, or of an upgrade. */
    private static ToolShed owing(int kind) {
        ToolShed shed = withTools(4, 2);
        if (kind == 0) {
            shed.set(0, 1);
            shed.pass(30);
        } else if (kind == 1) {
            shed.borrow(0, 0);
            shed.pass(8);
            shed.giveBack(0);
        } else {
            shed.propose(0, 1, 1);
            for (int member = 0; member < 3; member++) {
                shed.vote(0, member, 1);
            }
        }
        CHECK.due("12: open of kind " + kind, 1, shed.memberOf(0, 8 + kind));
        return shed;
    }

    private static void promise12AwayAndGone() {
        Twins some = new Twins(CHECK, () -> {
            ToolShed shed = withTools(3, 1);
            shed.away(0, 1);
            shed.leave(1);
            return shed;
        });
        some.dueNotPossible("12: an away one", shed -> shed.borrow(0, 0));
        some.dueNotPossible("12: a gone one", shed -> shed.borrow(0, 1));
        some.dueUndone("12: one who is there", 7, shed -> shed.borrow(0, 2));
    }

    private static void promise12OnlyWhatIsInTheShed() {
        Twins places = new Twins(CHECK, Check::eachPlace);
        places.dueUndone("12: in the shed", 7, shed -> shed.borrow(0, 0));
        places.dueNotPossible("12: with a member", shed -> shed.borrow(1, 0));
        places.dueNotPossible("12: with this member", shed -> shed.borrow(1, 5));
        places.dueNotPossible("12: lost", shed -> shed.borrow(2, 0));
        places.dueNotPossible("12: at another shed", shed -> shed.borrow(3, 0));
        places.dueNotPossible("12: gone", shed -> shed.borrow(4, 0));
    }

    private static void promise12LeavesItsHook() {
        ToolShed shed = withTools(1, 2);
        shed.hang(0, 2, 3);
        shed.borrow(0, 0);
        CHECK.due("12: its hook is free", Check.NOT_FOUND, shed.hookAt(2, 3));
        CHECK.due("12: it hangs no more", Check.NOT_FOUND, shed.toolOf(0, 8));
        CHECK.due("12: another one hangs there", 1, shed.hang(1, 2, 3));
    }

    private static void promise13LateDays() {
        int[] loans = {1, 7, 60};
        int[] charges = {0, 1, 20};
        for (int loan : loans) {
            for (int charge : charges) {
                for (int late = -1; late <= 2; late++) {
                    ToolShed shed = withTools(1, 1);
                    shed.set(0, 0);
                    shed.set(1, loan);
                    shed.borrow(0, 0);
                    Check.pass(shed, loan + late);
                    shed.set(2, charge);
                    int due = Math.max(0, late) * charge;
                    CHECK.due("13: charged " + late + " days behind a loan of " + loan, due, shed.giveBack(0));
                    CHECK.due("13: open losses of it", due, shed.memberOf(0, 9));
                    CHECK.due("13: it is in the shed", 0, shed.toolOf(0, 3));
                }
            }
        }
    }

    private static void promise13DaysItWasAway() {
        int[] due = {500, 500, 250, 125, 62};
        for (int days = 0; days < due.length; days++) {
            ToolShed shed = Check.shedOf(1);
            shed.tool(CUTTER, 1, 50);
            shed.pass(2);
            shed.borrow(0, 0);
            Check.pass(shed, days);
            CHECK.due("13: as dull as before, day " + days, 1000, shed.toolOf(0, 6));
            shed.giveBack(0);
            CHECK.due("13: as dull as behind " + days + " days, one at least", due[days], shed.toolOf(0, 6));
        }
    }

    /** A float times 100 and divided by 100 may be another one, and is asked for without wear too. */
    private static void promise13WithoutWearInFloats() {
        ToolShed shed = Check.shedOf(1);
        shed.tool(CUTTER, 1, 1);
        shed.lendOut(0, 0, 1, 0);
        shed.pass(2);
        shed.comeBack(0);
        shed.set(4, 1000);
        shed.set(5, 20);
        CHECK.due("19: sharpen", 0, shed.sharpen());
        shed.propose(0, 1, 1);
        shed.vote(0, 0, 1);
        CHECK.dueText("13: no wear is left", "0 1065086123", shed.toolOf(0, 2) + " " + shed.bits(0));
        shed.borrow(0, 0);
        CHECK.due("13: giveBack", 0, shed.giveBack(0));
        CHECK.due("13: the float next to it", 1065086124, shed.bits(0));
    }

    private static void promise13OnlyWhatAMemberHas() {
        Twins places = new Twins(CHECK, Check::eachPlace);
        places.dueNotPossible("13: in the shed", shed -> shed.giveBack(0));
        places.dueUndone("13: with a member", 0, shed -> shed.giveBack(1));
        places.dueNotPossible("13: lost", shed -> shed.giveBack(2));
        places.dueNotPossible("13: at another shed", shed -> shed.giveBack(3));
        places.dueNotPossible("13: gone", shed -> shed.giveBack(4));
    }

    private static void promise14NotFound() {
        Twins places = new Twins(CHECK, Check::eachPlace);
        int[] holders = {Check.NOT_FOUND, 5, 5, 3, Check.NOT_FOUND};
        int[] days = {Check.NOT_FOUND, 7, 7, 1, Check.NOT_FOUND};
        for (int tool = 0; tool < 5; tool++) {
            int one = tool;
            places.dueUnchanged("14: place of " + tool, tool, shed -> shed.toolOf(one, 3));
            places.dueUnchanged("14: who has " + tool, holders[tool], shed -> shed.toolOf(one, 4));
            places.dueUnchanged("14: day due of " + tool, days[tool], shed -> shed.toolOf(one, 5));
            places.dueNotFound("14: hook of " + tool, shed -> shed.toolOf(one, 8));
            places.dueUnchanged("14: how often " + tool, tool == 0 ? 0 : 1, shed -> shed.toolOf(one, 7));
        }
    }

    private static void promise14ThousandthsAreCut() {
        ToolShed shed = Check.shedOf(1);
        shed.tool(PLAIN, 1, 50);
        int[] due = {1000, 500, 250, 125, 62, 31, 15, 7, 3, 1, 0, 0};
        for (int day = 0; day < due.length; day++) {
            CHECK.due("14: thousandths behind " + day + " halves", due[day], shed.toolOf(0, 6));
            Check.wearOnce(shed, 0);
        }
    }

    private static void promise15BitsWhereverItIs() {
        Twins places = new Twins(CHECK, Check::eachPlace);
        for (int tool = 0; tool < 5; tool++) {
            int one = tool;
            places.dueUnchanged("15: bits of " + tool, 0x3f800000, shed -> shed.bits(one));
        }
    }

    private static void promise16FirstAndLastDay() {
        int[] wears = {0, 1, 50};
        int[] ofFirst = {1000, 990, 500};
        int[] ofLast = {1000, 133, 0};
        for (int i = 0; i < wears.length; i++) {
            ToolShed shed = new ToolShed();
            shed.tool(PLAIN, 1, wears[i]);
            CHECK.due("16: the first day with wear " + wears[i], ofFirst[i], shed.dullBehind(0, 1));
            CHECK.due("16: the last day with wear " + wears[i], ofLast[i], shed.dullBehind(0, 200));
        }
        ToolShed away = Check.shedOf(1);
        away.tool(PLAIN, 1, 50);
        away.lendOut(0, 0, 1, 0);
        away.pass(60);
        CHECK.due("16: however long it is away", 250, away.dullBehind(0, 2));
    }

    private static void promise16GoneToolIsRefused() {
        Twins places = new Twins(CHECK, Check::eachPlace);
        for (int tool = 0; tool < 4; tool++) {
            int one = tool;
            places.dueUnchanged("16: in place " + tool, 900, shed -> shed.dullBehind(one, 1));
        }
        places.dueNotPossible("16: gone, the first day", shed -> shed.dullBehind(4, 1));
        places.dueNotPossible("16: gone, the last day", shed -> shed.dullBehind(4, 200));
    }

    private static void promise17NoneAndTwenty() {
        Twins plain = new Twins(CHECK, () -> withTools(1, 20));
        plain.dueNotFound("17: no cutter of twenty tools", shed -> shed.mean(CUTTER));
        ToolShed all = withTools(1, 20);
        CHECK.due("17: twenty", 1000, all.mean(PLAIN));
        Check.wearOnce(all, 19);
        CHECK.due("17: the twentieth counts", 994, all.mean(PLAIN));
        for (int tool = 0; tool < 19; tool++) {
            all.lendOut(tool, 0, 1, 0);
        }
        CHECK.due("17: only the twentieth is left, which is a little below 0.9 in doubles", 899, all.mean(PLAIN));
        all.lendOut(19, 0, 1, 0);
        CHECK.due("17: none is left", Check.NOT_FOUND, all.mean(PLAIN));
        Twins places = new Twins(CHECK, Check::eachPlace);
        places.dueUnchanged("17: of five places", 1000, shed -> shed.mean(PLAIN));
        ToolShed dull = Check.eachPlace();
        Check.wearOnce(dull, 0);
        CHECK.due("17: only the one in the shed counts", 899, dull.mean(PLAIN));
    }

    private static void promise17InDoubles() {
        ToolShed three = Check.shedOf(1);
        for (int tool = 0; tool < 3; tool++) {
            three.tool(PLAIN, 1, 7);
            Check.wearOnce(three, tool);
        }
        CHECK.due("17: added up in floats, these would be 929", 930, three.mean(PLAIN));
        CHECK.due("17: by 1000 / 19 these would be 999", 1000, withTools(1, 19).mean(PLAIN));
    }

    private static void promise18EachHook() {
        for (int hook = 0; hook < 12; hook++) {
            ToolShed shed = new ToolShed();
            shed.tool(hook / 4 % 2, 1, 0);
            shed.hang(0, hook / 4, hook % 4);
            for (int other = 0; other < 12; other++) {
                int due = other == hook ? 0 : Check.NOT_FOUND;
                CHECK.due("18: hook " + other + " when " + hook + " is taken", due, shed.hookAt(other / 4, other % 4));
            }
        }
    }
}
