/** A tool shed of a neighbourhood; ../shared/DOC.md says what each call answers and changes. */
public final class ToolShed {
    public static final int INVALID_ARGUMENT = -1000001;
    public static final int NOT_POSSIBLE = -1000002;
    public static final int LIMIT_REACHED = -1000003;
    public static final int NOT_FOUND = -1000004;

    private static final int MEMBER_LIMIT = 10;
    private static final int TOOL_LIMIT = 20;
    private static final int TEXT_LIMIT = 60;
    private static final int HISTORY_LIMIT = 4;
    private static final int LAST_DAY = 3000;
    private static final int DAYS_OF_MONTH = 30;
    private static final int SHEDS = 4;
    private static final int MOST_QUARTERS = 400;
    private static final int MOST_DAYS = 60;
    private static final int NOBODY = -1;

    // The settings, by the document's numbers.
    private static final int DUES_OF_MONTH = 0;
    private static final int DAYS_OF_LOAN = 1;
    private static final int LATE_CHARGE = 2;
    private static final int SHARPENING_QUARTERS = 3;
    private static final int DULL_LIMIT = 4;
    private static final int RESTORED_PERCENT = 5;
    private static final int DAYS_OF_VOTE = 6;
    private static final int SETTINGS = 7;
    private static final int[] SETTING_LEAST = {0, 1, 0, 0, 0, 0, 1};
    private static final int[] SETTING_MOST = {400, 60, 20, 40, 1000, 100, 60};
    private static final int[] SETTING_FIRST = {20, 7, 1, 2, 600, 80, 10};

    // The numbers of a member, as memberOf() and account() count them; PAID and OPEN are each the first of three.
    private static final int STATUS = 0;
    private static final int GIVEN = 1;
    private static final int SHARED = 2;
    private static final int CREDIT = 3;
    private static final int HANDED_ON = 4;
    private static final int PAID = 5;
    private static final int OPEN = 8;
    private static final int PANELS = 11;
    private static final int MEMBER_NUMBERS = 12;

    private static final int THERE = 0;
    private static final int AWAY = 1;
    private static final int GONE = 2;

    // What is booked: a charge of one of three kinds, or a gain.
    private static final int DUES = 0;
    private static final int LOSSES = 1;
    private static final int UPGRADES = 2;
    private static final int CHARGE_KINDS = 3;
    private static final int GAIN = 3;

    private static final int CUTTER = 0;
    private static final int PLAIN = 1;

    // Where a tool is, as toolOf() tells it.
    private static final int IN_SHED = 0;
    private static final int WITH_MEMBER = 1;
    private static final int LOST = 2;
    private static final int AT_OTHER_SHED = 3;
    private static final int TOOL_GONE = 4;
    private static final int PLACES = 5;

    private static final int WALLS = 3;
    private static final int HOOKS = 4;
    private static final int WALL_FOR_ALL = 2;
    private static final int NO_WALL = -1;
    private static final int TOOLS_OF_MEMBER = 3;

    private static final int PANEL_SEATS = 3;
    private static final int MEMBER_PAYS = 0;
    private static final int ALL_PAY = 1;
    private static final int HALF_AND_HALF = 2;
    private static final int UNDECIDED = 3;
    private static final int SILENT = -1;

    private static final int REJECTED = 0;
    private static final int ACCEPTED = 1;
    private static final int STILL_OPEN = 2;

    private static final int NO_FAULT = 0;
    private static final int BAD_FORM = 1;
    private static final int NONE_SUCH = 2;
    private static final int OTHERWISE = 3;

    private final Shed present = new Shed();
    private final Shed trial = new Shed();
    private final History history = new History();
    private final Orders orders = new Orders();

    public ToolShed() {
    }

    // ---- settings, members

    public int set(int what, int value) {
        history.copyPresent(present);
        return changed(present.changeSetting(what, value));
    }

    public int member() {
        history.copyPresent(present);
        return changed(present.members.join());
    }

    public int away(int member, int away) {
        history.copyPresent(present);
        return changed(present.members.putAway(member, away));
    }

    public int leave(int member) {
        history.copyPresent(present);
        return changed(present.letLeave(member));
    }

    public int give(int member, int quarters) {
        history.copyPresent(present);
        return changed(present.members.takeGift(member, quarters));
    }

    public int memberOf(int member, int what) {
        return present.tellOfMember(member, what);
    }

    public int account(int what) {
        return present.members.tellOfAll(what);
    }

    public int debtorAt(int index) {
        return present.members.debtorInOrder(index);
    }

    // ---- tools

    public int tool(int kind, int value, int wear) {
        history.copyPresent(present);
        return changed(present.addTool(kind, value, wear));
    }

    public int hang(int tool, int wall, int hook) {
        history.copyPresent(present);
        return changed(present.hangTool(tool, wall, hook));
    }

    public int borrow(int tool, int member) {
        history.copyPresent(present);
        return changed(present.lendToMember(tool, member));
    }

    public int giveBack(int tool) {
        history.copyPresent(present);
        return changed(present.takeBack(tool));
    }

    public int toolOf(int tool, int what) {
        return present.tellOfTool(tool, what);
    }

    public int bits(int tool) {
        return present.bitsOfTool(tool);
    }

    public int dullBehind(int tool, int days) {
        return present.foretellDullness(tool, days);
    }

    public int mean(int kind) {
        return present.meanSharpness(kind);
    }

    public int hookAt(int wall, int hook) {
        return present.toolOnHook(wall, hook);
    }

    // ---- sharpening

    public int sharpen() {
        history.copyPresent(present);
        return changed(present.sharpenDullest());
    }

    public int swap(int one, int other) {
        history.copyPresent(present);
        return changed(present.members.swapTurns(one, other));
    }

    public int turnAt(int index) {
        return present.members.memberInTurn(index);
    }

    public int dullAt(int index) {
        return present.cutterInOrder(index);
    }

    // ---- panels

    public int lose(int tool) {
        history.copyPresent(present);
        return changed(present.loseTool(tool));
    }

    public int say(int tool, int member, int word) {
        history.copyPresent(present);
        return changed(present.hearPanel(tool, member, word));
    }

    public int find(int tool) {
        history.copyPresent(present);
        return changed(present.findTool(tool));
    }

    public int panelAt(int tool, int index, int what) {
        return present.tellOfPanel(tool, index, what);
    }

    // ---- votes

    public int propose(int tool, int cost, int better) {
        history.copyPresent(present);
        return changed(present.openProposal(tool, cost, better));
    }

    public int vote(int tool, int member, int yes) {
        history.copyPresent(present);
        return changed(present.takeVote(tool, member, yes));
    }

    public int proposalOf(int tool, int what) {
        return present.tellOfProposal(tool, what);
    }

    // ---- other sheds, time

    public int lendOut(int tool, int shed, int days, int fee) {
        history.copyPresent(present);
        return changed(present.lendToShed(tool, shed, days, fee));
    }

    public int comeBack(int tool) {
        history.copyPresent(present);
        return changed(present.takeFromShed(tool));
    }

    public int pass(int days) {
        history.copyPresent(present);
        return changed(present.letDaysPass(days));
    }

    public int count(int what) {
        if (what == 10) {
            return history.kept;
        }
        if (what == 11) {
            return orders.length;
        }
        return present.tellCount(what);
    }

    public int undo() {
        return history.restore(present);
    }

    // ---- texts

    public int type(int character) {
        return orders.append(character);
    }

    public int clearText() {
        return orders.empty();
    }

    public int fault(int what) {
        if (what != 0 && what != 1) {
            return INVALID_ARGUMENT;
        }
        orders.tryOn(trial, present);
        if (orders.reason == NO_FAULT) {
            return NOT_FOUND;
        }
        return what == 0 ? orders.position : orders.reason;
    }

    public int play() {
        orders.tryOn(trial, present);
        if (orders.reason != NO_FAULT) {
            return NOT_POSSIBLE;
        }
        history.copyPresent(present);
        present.copyFrom(trial);
        return changed(orders.done);
    }

    /** Answers are at least 0 and errors below, so the sign tells whether there was a change. */
    private int changed(int answer) {
        if (answer >= 0) {
            history.keepCopy();
        }
        return answer;
    }

    /** What a member has given, got, paid and owes. */
    private static final class Member {
        final int[] numbers = new int[MEMBER_NUMBERS];

        void copyFrom(Member other) {
            System.arraycopy(other.numbers, 0, numbers, 0, MEMBER_NUMBERS);
        }

        boolean isThere() {
            return numbers[STATUS] == THERE;
        }

        boolean isGone() {
            return numbers[STATUS] == GONE;
        }

        int openInAll() {
            int sum = 0;
            for (int kind = 0; kind < CHARGE_KINDS; kind++) {
                sum += numbers[OPEN + kind];
            }
            return sum;
        }

        void gainGiven(int quarters) {
            numbers[GIVEN] += quarters;
            payOpen(quarters);
        }

        void gainShared(int quarters) {
            numbers[SHARED] += quarters;
            payOpen(quarters);
        }

        private void payOpen(int quarters) {
            int left = quarters;
            for (int kind = 0; kind < CHARGE_KINDS; kind++) {
                int paid = Math.min(left, numbers[OPEN + kind]);
                numbers[OPEN + kind] -= paid;
                numbers[PAID + kind] += paid;
                left -= paid;
            }
            numbers[CREDIT] += left;
        }

        void charge(int kind, int quarters) {
            if (kind < 0 || kind >= CHARGE_KINDS) {
                return;
            }
            int paid = Math.min(numbers[CREDIT], quarters);
            numbers[CREDIT] -= paid;
            numbers[PAID + kind] += paid;
            numbers[OPEN + kind] += quarters - paid;
        }

        /** Takes what is shared: a gain, or a charge of this kind. */
        void takeShare(int kind, int quarters) {
            if (kind == GAIN) {
                gainShared(quarters);
            } else {
                charge(kind, quarters);
            }
        }
    }

    /** All who ever joined, the pointer of sharing, and the turns of those who are not gone. */
    private static final class Members {
        final Member[] all = new Member[MEMBER_LIMIT];
        final int[] turns = new int[MEMBER_LIMIT];
        int joined;
        int inTurns;
        int pointer;

        Members() {
            for (int i = 0; i < MEMBER_LIMIT; i++) {
                all[i] = new Member();
            }
        }

        void copyFrom(Members other) {
            for (int i = 0; i < MEMBER_LIMIT; i++) {
                all[i].copyFrom(other.all[i]);
            }
            System.arraycopy(other.turns, 0, turns, 0, MEMBER_LIMIT);
            joined = other.joined;
            inTurns = other.inTurns;
            pointer = other.pointer;
        }

        boolean has(int number) {
            return number >= 0 && number < joined && number < MEMBER_LIMIT;
        }

        /** Whether this is a member who is not gone, and another one than the one left out. */
        boolean takesPart(int number, int leftOut) {
            return has(number) && number != leftOut && !all[number].isGone();
        }

        int countNotGone(int leftOut) {
            int sum = 0;
            for (int i = 0; i < joined; i++) {
                if (takesPart(i, leftOut)) {
                    sum++;
                }
            }
            return sum;
        }

        int countWithStatus(int status) {
            int sum = 0;
            for (int i = 0; i < joined; i++) {
                if (has(i) && all[i].numbers[STATUS] == status) {
                    sum++;
                }
            }
            return sum;
        }

        int join() {
            if (joined >= MEMBER_LIMIT) {
                return LIMIT_REACHED;
            }
            int number = joined;
            joined++;
            putBehindTurns(number);
            return number;
        }

        int putAway(int member, int away) {
            if (!has(member) || away < 0 || away > 1) {
                return INVALID_ARGUMENT;
            }
            if (all[member].isGone()) {
                return NOT_POSSIBLE;
            }
            int before = all[member].numbers[STATUS];
            all[member].numbers[STATUS] = away == 1 ? AWAY : THERE;
            return before;
        }

        /** The credit goes to the others only when this one is gone, so that nothing of it comes back. */
        int depart(int member) {
            if (!has(member)) {
                return INVALID_ARGUMENT;
            }
            int credit = all[member].numbers[CREDIT];
            all[member].numbers[CREDIT] = 0;
            all[member].numbers[HANDED_ON] += credit;
            all[member].numbers[STATUS] = GONE;
            takeOutOfTurns(member);
            share(credit, GAIN, member);
            return credit;
        }

        int takeGift(int member, int quarters) {
            if (!has(member) || quarters < 1 || quarters > MOST_QUARTERS) {
                return INVALID_ARGUMENT;
            }
            if (all[member].isGone()) {
                return NOT_POSSIBLE;
            }
            all[member].gainGiven(quarters);
            return all[member].numbers[CREDIT];
        }

        void chargeEach(int kind, int quarters) {
            for (int i = 0; i < joined; i++) {
                if (takesPart(i, NOBODY)) {
                    all[i].charge(kind, quarters);
                }
            }
        }

        /** Shares a gain, or a charge of a kind, among all who are not gone, but for one left out. */
        void share(int quarters, int kind, int leftOut) {
            int sharers = countNotGone(leftOut);
            if (sharers == 0) {
                return;
            }
            int each = quarters / sharers;
            int left = quarters % sharers;
            int first = pointer;
            for (int step = 0; step < MEMBER_LIMIT; step++) {
                int number = (first + step) % MEMBER_LIMIT;
                if (takesPart(number, leftOut)) {
                    all[number].takeShare(kind, left > 0 ? each + 1 : each);
                    if (left > 0) {
                        left--;
                        pointer = (number + 1) % MEMBER_LIMIT;
                    }
                }
            }
        }

        int tellOfAll(int what) {
            if (what == 11) {
                return pointer;
            }
            if (what < 1 || what > 10) {
                return INVALID_ARGUMENT;
            }
            int sum = 0;
            for (int i = 0; i < MEMBER_LIMIT; i++) {
                sum += all[i].numbers[what];
            }
            return sum;
        }

        int debtorInOrder(int index) {
            if (index < 0) {
                return INVALID_ARGUMENT;
            }
            for (int i = 0; i < MEMBER_LIMIT; i++) {
                if (all[i].openInAll() > 0 && debtorsAheadOf(i) == index) {
                    return i;
                }
            }
            return NOT_FOUND;
        }

        private int debtorsAheadOf(int member) {
            if (!has(member)) {
                return 0;
            }
            int open = all[member].openInAll();
            int sum = 0;
            for (int i = 0; i < MEMBER_LIMIT; i++) {
                int other = all[i].openInAll();
                if (other > open || other == open && i < member) {
                    sum++;
                }
            }
            return sum;
        }

        private void putBehindTurns(int member) {
            if (inTurns >= 0 && inTurns < MEMBER_LIMIT) {
                turns[inTurns] = member;
                inTurns++;
            }
        }

        private void takeOutOfTurns(int member) {
            int kept = 0;
            for (int i = 0; i < MEMBER_LIMIT && i < inTurns; i++) {
                if (turns[i] != member) {
                    turns[kept] = turns[i];
                    kept++;
                }
            }
            inTurns = kept;
        }

        void moveToEndOfTurns(int member) {
            takeOutOfTurns(member);
            putBehindTurns(member);
        }

        int placeInTurns(int member) {
            for (int i = 0; i < MEMBER_LIMIT && i < inTurns; i++) {
                if (turns[i] == member) {
                    return i;
                }
            }
            return NOT_FOUND;
        }

        int memberInTurn(int index) {
            if (index < 0) {
                return INVALID_ARGUMENT;
            }
            return index < inTurns && index < MEMBER_LIMIT ? turns[index] : NOT_FOUND;
        }

        int firstThereInTurns() {
            for (int i = 0; i < MEMBER_LIMIT && i < inTurns; i++) {
                int member = turns[i];
                if (has(member) && all[member].isThere()) {
                    return member;
                }
            }
            return NOBODY;
        }

        int swapTurns(int one, int other) {
            if (!has(one) || !has(other) || one == other) {
                return INVALID_ARGUMENT;
            }
            int placeOfOne = placeInTurns(one);
            int placeOfOther = placeInTurns(other);
            if (placeOfOne < 0 || placeOfOther < 0) {
                return NOT_POSSIBLE;
            }
            turns[placeOfOne] = other;
            turns[placeOfOther] = one;
            return placeOfOther;
        }

        /** Seats the three with the fewest panels, or answers false and changes nothing if there are not three. */
        boolean callPanel(int loser, Panel panel) {
            int called = 0;
            for (int seat = 0; seat < PANEL_SEATS; seat++) {
                int next = nextForPanel(loser, called);
                if (next == NOBODY) {
                    return false;
                }
                called |= 1 << next;
            }
            panel.begin();
            for (int i = 0; i < MEMBER_LIMIT; i++) {
                if ((called >> i & 1) == 1) {
                    all[i].numbers[PANELS]++;
                    panel.seat(i);
                }
            }
            return true;
        }

        private int nextForPanel(int loser, int called) {
            int next = NOBODY;
            int fewest = 0;
            for (int i = 0; i < joined; i++) {
                if (!has(i) || i == loser || !all[i].isThere() || (called >> i & 1) == 1) {
                    continue;
                }
                int panels = all[i].numbers[PANELS];
                if (next == NOBODY || panels < fewest) {
                    next = i;
                    fewest = panels;
                }
            }
            return next;
        }
    }

    /** The three who decide on a lost tool, in order by numbers; it counts only while the tool is lost. */
    private static final class Panel {
        final int[] seated = new int[PANEL_SEATS];
        final int[] words = new int[PANEL_SEATS];
        int seats;

        void copyFrom(Panel other) {
            System.arraycopy(other.seated, 0, seated, 0, PANEL_SEATS);
            System.arraycopy(other.words, 0, words, 0, PANEL_SEATS);
            seats = other.seats;
        }

        void begin() {
            seats = 0;
        }

        void seat(int member) {
            if (seats >= 0 && seats < PANEL_SEATS) {
                seated[seats] = member;
                words[seats] = SILENT;
                seats++;
            }
        }

        boolean hasSeated(int member) {
            for (int i = 0; i < PANEL_SEATS; i++) {
                if (seated[i] == member) {
                    return true;
                }
            }
            return false;
        }

        /** False if this member is not in the panel or has said something. */
        boolean hears(int member, int word) {
            for (int i = 0; i < PANEL_SEATS; i++) {
                if (seated[i] == member && words[i] == SILENT) {
                    words[i] = word;
                    return true;
                }
            }
            return false;
        }

        int countOfWord(int word) {
            int sum = 0;
            for (int i = 0; i < PANEL_SEATS; i++) {
                if (words[i] == word) {
                    sum++;
                }
            }
            return sum;
        }

        int countOfSpeakers() {
            return PANEL_SEATS - countOfWord(SILENT);
        }

        int decision() {
            for (int word = MEMBER_PAYS; word <= HALF_AND_HALF; word++) {
                if (countOfWord(word) >= 2) {
                    return word;
                }
            }
            return countOfSpeakers() == PANEL_SEATS ? HALF_AND_HALF : UNDECIDED;
        }
    }

    /** An upgrade that is voted on; the other fields count only while it stands. */
    private static final class Proposal {
        boolean stands;
        int cost;
        int better;
        int lastDay;
        int yes;
        int no;
        int voted; // one bit for each member

        void copyFrom(Proposal other) {
            stands = other.stands;
            cost = other.cost;
            better = other.better;
            lastDay = other.lastDay;
            yes = other.yes;
            no = other.no;
            voted = other.voted;
        }

        void begin(int itsCost, int itsBetter, int itsLastDay) {
            stands = true;
            cost = itsCost;
            better = itsBetter;
            lastDay = itsLastDay;
            yes = 0;
            no = 0;
            voted = 0;
        }

        boolean hasVoteOf(int member) {
            return (voted >> member & 1) == 1;
        }

        void countVote(int member, boolean isYes) {
            voted |= 1 << member;
            if (isYes) {
                yes++;
            } else {
                no++;
            }
        }

        int outcome(int voters) {
            if (2 * yes > voters) {
                return ACCEPTED;
            }
            return 2 * no >= voters ? REJECTED : STILL_OPEN;
        }

        int tell(int what) {
            switch (what) {
                case 0: return cost;
                case 1: return better;
                case 2: return lastDay;
                case 3: return yes;
                case 4: return no;
                default: return INVALID_ARGUMENT;
            }
        }
    }

    private static final class Tool {
        int kind;
        int value;
        int wear;
        float sharpness;
        int place;
        int holder; // the member or the other shed, while it is away from the shed
        int since;
        int due;
        int fee;
        int lends;
        int wall;
        int hook;
        final Panel panel = new Panel();
        final Proposal proposal = new Proposal();

        void copyFrom(Tool other) {
            kind = other.kind;
            value = other.value;
            wear = other.wear;
            sharpness = other.sharpness;
            place = other.place;
            holder = other.holder;
            since = other.since;
            due = other.due;
            fee = other.fee;
            lends = other.lends;
            wall = other.wall;
            hook = other.hook;
            panel.copyFrom(other.panel);
            proposal.copyFrom(other.proposal);
        }

        void begin(int itsKind, int itsValue, int itsWear) {
            kind = itsKind;
            value = itsValue;
            wear = itsWear;
            sharpness = 1f;
            place = IN_SHED;
            lends = 0;
            wall = NO_WALL;
            proposal.stands = false;
        }

        boolean isCutterInShed() {
            return kind == CUTTER && place == IN_SHED;
        }

        /** Whether a member has it, or has lost it without an end so far. */
        boolean isOnMember(int member) {
            return (place == WITH_MEMBER || place == LOST) && holder == member;
        }

        boolean hangsOn(int itsWall, int itsHook) {
            return wall == itsWall && hook == itsHook;
        }

        void goOut(int itsPlace, int itsHolder, int today, int days) {
            place = itsPlace;
            holder = itsHolder;
            since = today;
            due = today + days;
            lends++;
            wall = NO_WALL;
        }

        int daysOut(int today) {
            return Math.max(1, today - since);
        }

        void comeIn(int today) {
            sharpness = sharpnessBehind(daysOut(today));
            place = IN_SHED;
        }

        /** Each day is rounded by itself, even one with wear 0, since the document asks for floats day by day. */
        float sharpnessBehind(int days) {
            float left = 100 - wear;
            float sharp = sharpness;
            for (int day = 0; day < days; day++) {
                sharp = sharp * left;
                sharp = sharp / 100f;
            }
            return sharp;
        }

        void sharpenBy(int percent) {
            float restored = (1f - sharpness) * (float) percent;
            sharpness = sharpness + restored / 100f;
        }

        void vanish() {
            place = TOOL_GONE;
            proposal.stands = false;
        }

        int tell(int what) {
            boolean isOut = place != IN_SHED && place != TOOL_GONE;
            switch (what) {
                case 0: return kind;
                case 1: return value;
                case 2: return wear;
                case 3: return place;
                case 4: return isOut ? holder : NOT_FOUND;
                case 5: return isOut ? due : NOT_FOUND;
                case 6: return thousandths(sharpness);
                case 7: return lends;
                case 8: return wall == NO_WALL ? NOT_FOUND : 10 * wall + hook;
                default: return INVALID_ARGUMENT;
            }
        }
    }

    /** All that a state of the history holds. */
    private static final class Shed {
        final int[] settings = new int[SETTINGS];
        final Members members = new Members();
        final Tool[] tools = new Tool[TOOL_LIMIT];
        int added;
        int today;

        Shed() {
            System.arraycopy(SETTING_FIRST, 0, settings, 0, SETTINGS);
            for (int i = 0; i < TOOL_LIMIT; i++) {
                tools[i] = new Tool();
            }
        }

        void copyFrom(Shed other) {
            System.arraycopy(other.settings, 0, settings, 0, SETTINGS);
            members.copyFrom(other.members);
            for (int i = 0; i < TOOL_LIMIT; i++) {
                tools[i].copyFrom(other.tools[i]);
            }
            added = other.added;
            today = other.today;
        }

        boolean hasTool(int tool) {
            return tool >= 0 && tool < added && tool < TOOL_LIMIT;
        }

        int changeSetting(int what, int value) {
            if (what < 0 || what >= SETTINGS || value < SETTING_LEAST[what] || value > SETTING_MOST[what]) {
                return INVALID_ARGUMENT;
            }
            int before = settings[what];
            settings[what] = value;
            return before;
        }

        int letLeave(int member) {
            if (!members.has(member)) {
                return INVALID_ARGUMENT;
            }
            Member leaver = members.all[member];
            if (leaver.isGone() || leaver.openInAll() > 0 || isBound(member) || members.countNotGone(member) == 0) {
                return NOT_POSSIBLE;
            }
            return members.depart(member);
        }

        /** Whether a tool or a panel that is not over keeps this member from leaving. */
        private boolean isBound(int member) {
            for (int i = 0; i < added; i++) {
                if (hasTool(i) && tools[i].isOnMember(member)) {
                    return true;
                }
                if (hasTool(i) && tools[i].place == LOST && tools[i].panel.hasSeated(member)) {
                    return true;
                }
            }
            return false;
        }

        int tellOfMember(int member, int what) {
            if (!members.has(member) || what < 0 || what > 13) {
                return INVALID_ARGUMENT;
            }
            if (what == 13) {
                return members.placeInTurns(member);
            }
            if (what == 12) {
                return toolsOfMember(member, false);
            }
            return what < MEMBER_NUMBERS ? members.all[member].numbers[what] : INVALID_ARGUMENT;
        }

        private int toolsOfMember(int member, boolean withLost) {
            int sum = 0;
            for (int i = 0; i < added; i++) {
                if (hasTool(i) && tools[i].isOnMember(member) && (withLost || tools[i].place == WITH_MEMBER)) {
                    sum++;
                }
            }
            return sum;
        }

        int addTool(int kind, int value, int wear) {
            if (kind != CUTTER && kind != PLAIN || value < 1 || value > MOST_QUARTERS || wear < 0 || wear > 50) {
                return INVALID_ARGUMENT;
            }
            if (added < 0 || added >= TOOL_LIMIT) {
                return LIMIT_REACHED;
            }
            int number = added;
            tools[number].begin(kind, value, wear);
            added++;
            return number;
        }

        private boolean isHook(int wall, int hook) {
            return wall >= 0 && wall < WALLS && hook >= 0 && hook < HOOKS;
        }

        int hangTool(int tool, int wall, int hook) {
            if (!hasTool(tool) || !isHook(wall, hook)) {
                return INVALID_ARGUMENT;
            }
            Tool hung = tools[tool];
            // Walls 0 and 1 have the numbers of the kinds that they take.
            boolean wallTakesIt = wall == WALL_FOR_ALL || wall == hung.kind;
            if (hung.place != IN_SHED || hung.wall != NO_WALL || toolOnHook(wall, hook) >= 0 || !wallTakesIt) {
                return NOT_POSSIBLE;
            }
            hung.wall = wall;
            hung.hook = hook;
            return countTaken(wall);
        }

        private int countTaken(int wall) {
            int sum = 0;
            for (int i = 0; i < added; i++) {
                if (hasTool(i) && tools[i].wall == wall) {
                    sum++;
                }
            }
            return sum;
        }

        int toolOnHook(int wall, int hook) {
            if (!isHook(wall, hook)) {
                return INVALID_ARGUMENT;
            }
            for (int i = 0; i < added; i++) {
                if (hasTool(i) && tools[i].hangsOn(wall, hook)) {
                    return i;
                }
            }
            return NOT_FOUND;
        }

        int lendToMember(int tool, int member) {
            if (!hasTool(tool) || !members.has(member)) {
                return INVALID_ARGUMENT;
            }
            Member borrower = members.all[member];
            if (tools[tool].place != IN_SHED || !borrower.isThere() || borrower.openInAll() > 0
                    || toolsOfMember(member, true) >= TOOLS_OF_MEMBER) {
                return NOT_POSSIBLE;
            }
            tools[tool].goOut(WITH_MEMBER, member, today, settings[DAYS_OF_LOAN]);
            return tools[tool].due;
        }

        int takeBack(int tool) {
            if (!hasTool(tool)) {
                return INVALID_ARGUMENT;
            }
            Tool back = tools[tool];
            if (back.place != WITH_MEMBER || !members.has(back.holder)) {
                return NOT_POSSIBLE;
            }
            int charge = Math.max(0, today - back.due) * settings[LATE_CHARGE];
            members.all[back.holder].charge(LOSSES, charge);
            back.comeIn(today);
            return charge;
        }

        int tellOfTool(int tool, int what) {
            return hasTool(tool) ? tools[tool].tell(what) : INVALID_ARGUMENT;
        }

        int bitsOfTool(int tool) {
            return hasTool(tool) ? floatBits(tools[tool].sharpness) : INVALID_ARGUMENT;
        }

        int foretellDullness(int tool, int days) {
            if (!hasTool(tool) || days < 1 || days > 200) {
                return INVALID_ARGUMENT;
            }
            if (tools[tool].place == TOOL_GONE) {
                return NOT_POSSIBLE;
            }
            return thousandths(tools[tool].sharpnessBehind(days));
        }

        int meanSharpness(int kind) {
            if (kind != CUTTER && kind != PLAIN) {
                return INVALID_ARGUMENT;
            }
            double sum = 0;
            int number = 0;
            for (int i = 0; i < added; i++) {
                if (hasTool(i) && tools[i].kind == kind && tools[i].place == IN_SHED) {
                    sum = sum + (double) tools[i].sharpness;
                    number++;
                }
            }
            return number == 0 ? NOT_FOUND : (int) (sum / number * 1000.0);
        }

        int cutterInOrder(int index) {
            if (index < 0) {
                return INVALID_ARGUMENT;
            }
            for (int i = 0; i < added; i++) {
                if (hasTool(i) && tools[i].isCutterInShed() && cuttersAheadOf(i) == index) {
                    return i;
                }
            }
            return NOT_FOUND;
        }

        private int cuttersAheadOf(int tool) {
            if (!hasTool(tool)) {
                return 0;
            }
            float sharpness = tools[tool].sharpness;
            int sum = 0;
            for (int i = 0; i < added; i++) {
                if (hasTool(i) && tools[i].isCutterInShed()) {
                    float other = tools[i].sharpness;
                    if (other < sharpness || other == sharpness && i < tool) {
                        sum++;
                    }
                }
            }
            return sum;
        }

        int sharpenDullest() {
            int member = members.firstThereInTurns();
            if (!members.has(member)) {
                return NOT_POSSIBLE;
            }
            int tool = cutterInOrder(0);
            if (!hasTool(tool) || thousandths(tools[tool].sharpness) >= settings[DULL_LIMIT]) {
                return NOT_FOUND;
            }
            tools[tool].sharpenBy(settings[RESTORED_PERCENT]);
            members.all[member].gainGiven(settings[SHARPENING_QUARTERS]);
            members.moveToEndOfTurns(member);
            return tool;
        }

        int loseTool(int tool) {
            if (!hasTool(tool)) {
                return INVALID_ARGUMENT;
            }
            Tool lost = tools[tool];
            if (lost.place != WITH_MEMBER || !members.callPanel(lost.holder, lost.panel)) {
                return NOT_POSSIBLE;
            }
            lost.place = LOST;
            return lost.panel.seated[0];
        }

        int hearPanel(int tool, int member, int word) {
            if (!hasTool(tool) || !members.has(member) || word < MEMBER_PAYS || word > HALF_AND_HALF) {
                return INVALID_ARGUMENT;
            }
            Tool lost = tools[tool];
            if (lost.place != LOST || !lost.panel.hears(member, word)) {
                return NOT_POSSIBLE;
            }
            int decision = lost.panel.decision();
            if (decision != UNDECIDED) {
                settleLoss(lost, decision);
            }
            return decision;
        }

        private void settleLoss(Tool lost, int decision) {
            int shared = 0;
            if (decision == ALL_PAY) {
                shared = lost.value;
            } else if (decision == HALF_AND_HALF) {
                shared = lost.value / 2;
            }
            if (members.has(lost.holder)) {
                members.all[lost.holder].charge(LOSSES, lost.value - shared);
            }
            members.share(shared, LOSSES, decision == ALL_PAY ? NOBODY : lost.holder);
            lost.vanish();
        }

        int findTool(int tool) {
            if (!hasTool(tool)) {
                return INVALID_ARGUMENT;
            }
            if (tools[tool].place != LOST) {
                return NOT_POSSIBLE;
            }
            tools[tool].place = IN_SHED;
            return tools[tool].panel.countOfSpeakers();
        }

        int tellOfPanel(int tool, int index, int what) {
            if (!hasTool(tool) || index < 0 || index >= PANEL_SEATS || what < 0 || what > 1) {
                return INVALID_ARGUMENT;
            }
            if (tools[tool].place != LOST) {
                return NOT_FOUND;
            }
            Panel panel = tools[tool].panel;
            if (what == 0) {
                return panel.seated[index];
            }
            return panel.words[index] == SILENT ? NOT_FOUND : panel.words[index];
        }

        int openProposal(int tool, int cost, int better) {
            if (!hasTool(tool) || cost < 1 || cost > MOST_QUARTERS || better < 1 || better > tools[tool].wear) {
                return INVALID_ARGUMENT;
            }
            Tool proposed = tools[tool];
            if (proposed.place == TOOL_GONE || proposed.proposal.stands || members.countNotGone(NOBODY) == 0) {
                return NOT_POSSIBLE;
            }
            proposed.proposal.begin(cost, better, today + settings[DAYS_OF_VOTE]);
            return proposed.proposal.lastDay;
        }

        int takeVote(int tool, int member, int yes) {
            if (!hasTool(tool) || !members.has(member) || yes < 0 || yes > 1) {
                return INVALID_ARGUMENT;
            }
            Proposal proposal = tools[tool].proposal;
            if (!proposal.stands || members.all[member].isGone() || proposal.hasVoteOf(member)) {
                return NOT_POSSIBLE;
            }
            proposal.countVote(member, yes == 1);
            int outcome = proposal.outcome(members.countNotGone(NOBODY));
            if (outcome == ACCEPTED) {
                members.share(proposal.cost, UPGRADES, NOBODY);
                tools[tool].wear -= proposal.better;
            }
            proposal.stands = outcome == STILL_OPEN;
            return outcome;
        }

        int tellOfProposal(int tool, int what) {
            if (!hasTool(tool) || what < 0 || what > 4) {
                return INVALID_ARGUMENT;
            }
            Proposal proposal = tools[tool].proposal;
            return proposal.stands ? proposal.tell(what) : NOT_FOUND;
        }

        int lendToShed(int tool, int shed, int days, int fee) {
            if (!hasTool(tool) || shed < 0 || shed >= SHEDS || days < 1 || days > MOST_DAYS || fee < 0 || fee > 40) {
                return INVALID_ARGUMENT;
            }
            if (tools[tool].place != IN_SHED) {
                return NOT_POSSIBLE;
            }
            tools[tool].goOut(AT_OTHER_SHED, shed, today, days);
            tools[tool].fee = fee;
            return tools[tool].due;
        }

        int takeFromShed(int tool) {
            if (!hasTool(tool)) {
                return INVALID_ARGUMENT;
            }
            Tool back = tools[tool];
            if (back.place != AT_OTHER_SHED || members.countNotGone(NOBODY) == 0) {
                return NOT_POSSIBLE;
            }
            int daysOut = back.daysOut(today);
            int daysBehind = Math.max(0, daysOut - (back.due - back.since));
            int quarters = back.fee * (daysOut + daysBehind);
            members.share(quarters, GAIN, NOBODY);
            back.comeIn(today);
            return quarters;
        }

        int letDaysPass(int days) {
            if (days < 1 || days > MOST_DAYS) {
                return INVALID_ARGUMENT;
            }
            if (today + days > LAST_DAY) {
                return LIMIT_REACHED;
            }
            for (int i = 0; i < days; i++) {
                beginDay();
            }
            return today;
        }

        private void beginDay() {
            today++;
            if (today % DAYS_OF_MONTH == 0) {
                members.chargeEach(DUES, settings[DUES_OF_MONTH]);
            }
            for (int i = 0; i < TOOL_LIMIT; i++) {
                if (today > tools[i].proposal.lastDay) {
                    tools[i].proposal.stands = false;
                }
            }
        }

        int tellCount(int what) {
            if (what >= 0 && what <= 2) {
                return members.countWithStatus(what);
            }
            if (what >= 3 && what < 3 + PLACES) {
                return countAtPlace(what - 3);
            }
            if (what == 8) {
                return countProposals();
            }
            if (what == 9) {
                return today;
            }
            return what >= 20 && what < 20 + SETTINGS ? settings[what - 20] : INVALID_ARGUMENT;
        }

        private int countAtPlace(int place) {
            int sum = 0;
            for (int i = 0; i < added; i++) {
                if (hasTool(i) && tools[i].place == place) {
                    sum++;
                }
            }
            return sum;
        }

        private int countProposals() {
            int sum = 0;
            for (int i = 0; i < added; i++) {
                if (hasTool(i) && tools[i].proposal.stands) {
                    sum++;
                }
            }
            return sum;
        }
    }

    /** The states that undo() restores, the oldest first; behind them one row that is filled ahead of each change. */
    private static final class History {
        final Shed[] states = new Shed[HISTORY_LIMIT + 1];
        int kept;

        History() {
            for (int i = 0; i <= HISTORY_LIMIT; i++) {
                states[i] = new Shed();
            }
        }

        void copyPresent(Shed present) {
            if (kept >= 0 && kept <= HISTORY_LIMIT) {
                states[kept].copyFrom(present);
            }
        }

        /** Makes a state of what copyPresent() has filled; the row of the oldest one is used again. */
        void keepCopy() {
            if (kept < HISTORY_LIMIT) {
                kept++;
                return;
            }
            Shed oldest = states[0];
            for (int i = 0; i < HISTORY_LIMIT; i++) {
                states[i] = states[i + 1];
            }
            states[HISTORY_LIMIT] = oldest;
        }

        int restore(Shed present) {
            if (kept < 1 || kept > HISTORY_LIMIT) {
                return NOT_POSSIBLE;
            }
            kept--;
            present.copyFrom(states[kept]);
            return kept;
        }
    }

    /** The text, and how far its orders could be done on a trial. */
    private static final class Orders {
        final char[] text = new char[TEXT_LIMIT];
        int length;
        int next;
        int position;
        int reason;
        int done;

        int append(int character) {
            if (character < 32 || character > 126) {
                return INVALID_ARGUMENT;
            }
            if (length < 0 || length >= TEXT_LIMIT) {
                return LIMIT_REACHED;
            }
            text[length] = (char) character;
            length++;
            return length;
        }

        int empty() {
            int before = length;
            length = 0;
            return before;
        }

        void tryOn(Shed trial, Shed present) {
            trial.copyFrom(present);
            next = 0;
            done = 0;
            reason = NO_FAULT;
            for (int i = 0; i < TEXT_LIMIT && next < length && reason == NO_FAULT; i++) {
                position = next;
                reason = runOrder(trial);
                if (reason == NO_FAULT) {
                    done++;
                }
            }
        }

        private int runOrder(Shed shed) {
            char letter = peek();
            next++;
            int first = 0;
            int second = 0;
            if (letter == 'g' || letter == 'l') {
                first = readNumber();
                second = takes(',') ? readNumber() : -1;
            } else if (letter == 'b') {
                first = readNumber();
            } else if (letter != 's') {
                return BAD_FORM;
            }
            if (first < 0 || second < 0 || !takes(';')) {
                return BAD_FORM;
            }
            return carryOut(shed, letter, first, second);
        }

        private int carryOut(Shed shed, char letter, int first, int second) {
            boolean named = true;
            int answer;
            if (letter == 'g') {
                named = shed.members.has(first);
                answer = shed.members.takeGift(first, second);
            } else if (letter == 'l') {
                named = shed.hasTool(first) && shed.members.has(second);
                answer = shed.lendToMember(first, second);
            } else if (letter == 'b') {
                named = shed.hasTool(first);
                answer = shed.takeBack(first);
            } else {
                answer = shed.sharpenDullest();
            }
            if (answer >= 0) {
                return NO_FAULT;
            }
            return named ? OTHERWISE : NONE_SUCH;
        }

        /** The next character, or one that no order has behind the end of the text. */
        private char peek() {
            return next >= 0 && next < length && next < TEXT_LIMIT ? text[next] : (char) 0;
        }

        private boolean takes(char sign) {
            if (peek() != sign) {
                return false;
            }
            next++;
            return true;
        }

        /** A number of one to three digits, or -1; a fourth digit is left, and no order has one there. */
        private int readNumber() {
            int number = -1;
            for (int i = 0; i < 3; i++) {
                char digit = peek();
                if (digit < '0' || digit > '9') {
                    return number;
                }
                number = Math.max(0, number) * 10 + (digit - '0');
                next++;
            }
            return number;
        }
    }

    private static int thousandths(float sharpness) {
        return (int) (sharpness * 1000f);
    }

    /**
     * The bits of a sharpness, which lies between 0 and 2: sharpening can round it a little above 1. Doubling is exact,
     * so it brings out the exponent; a number so small that it stays below 1 takes its leading bit back by the
     * difference, which is below 0 then.
     */
    private static int floatBits(float sharpness) {
        float scaled = sharpness;
        int exponent = 127;
        for (; scaled < 1f && exponent > 1; exponent--) {
            scaled = scaled * 2f;
        }
        return (exponent << 23) + (int) ((scaled - 1f) * 8388608f);
    }
}
