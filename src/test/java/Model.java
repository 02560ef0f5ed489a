import java.util.ArrayList;
import java.util.Comparator;
import java.util.HashMap;
import java.util.List;
import java.util.Map;
import java.util.regex.Matcher;
import java.util.regex.Pattern;
import java.util.stream.Collectors;
import java.util.stream.IntStream;

/**
 * The document written a second time, with the Java library and without thrift, to be compared with ToolShed.
 * Quarters are moved one by one, and a state is kept by copying it whole.
 */
public final class Model {
    private static final int INVALID = -1000001;
    private static final int NOT_POSSIBLE = -1000002;
    private static final int LIMIT = -1000003;
    private static final int NOT_FOUND = -1000004;

    private static final int[][] RANGES = {{0, 400}, {1, 60}, {0, 20}, {0, 40}, {0, 1000}, {0, 100}, {1, 60}};

    private static final class Person {
        String where = "there";
        int given;
        int shared;
        int credit;
        int handedOn;
        int[] paid = new int[3];
        int[] open = new int[3];
        int panels;

        Person copy() {
            Person p = new Person();
            p.where = where;
            p.given = given;
            p.shared = shared;
            p.credit = credit;
            p.handedOn = handedOn;
            p.paid = paid.clone();
            p.open = open.clone();
            p.panels = panels;
            return p;
        }

        boolean gone() {
            return where.equals("gone");
        }

        int owes() {
            return IntStream.of(open).sum();
        }

        void gainQuarter() {
            for (int kind = 0; kind < 3; kind++) {
                if (open[kind] > 0) {
                    open[kind]--;
                    paid[kind]++;
                    return;
                }
            }
            credit++;
        }

        void chargeQuarter(int kind) {
            if (credit > 0) {
                credit--;
                paid[kind]++;
            } else {
                open[kind]++;
            }
        }
    }

    private static final class Thing {
        int kind;
        int value;
        int wear;
        float sharp = 1f;
        String where = "shed";
        int who;
        int out;
        int due;
        int agreed;
        int fee;
        int times;
        String hook = "";
        Map<Integer, Integer> panel = new HashMap<>();
        int[] proposal;
        Map<Integer, Integer> votes = new HashMap<>();

        Thing copy() {
            Thing t = new Thing();
            t.kind = kind;
            t.value = value;
            t.wear = wear;
            t.sharp = sharp;
            t.where = where;
            t.who = who;
            t.out = out;
            t.due = due;
            t.agreed = agreed;
            t.fee = fee;
            t.times = times;
            t.hook = hook;
            t.panel = new HashMap<>(panel);
            t.proposal = proposal == null ? null : proposal.clone();
            t.votes = new HashMap<>(votes);
            return t;
        }

        float dull(int days) {
            float f = sharp;
            for (int i = 0; i < days; i++) {
                f = (f * (100 - wear)) / 100;
            }
            return f;
        }

        int votesWith(int yes) {
            return (int) votes.values().stream().filter(v -> v == yes).count();
        }
    }

    private static final class State {
        int[] settings = {20, 7, 1, 2, 600, 80, 10};
        List<Person> people = new ArrayList<>();
        List<Thing> things = new ArrayList<>();
        List<Integer> turns = new ArrayList<>();
        int pointer;
        int day;

        State copy() {
            State s = new State();
            s.settings = settings.clone();
            people.forEach(p -> s.people.add(p.copy()));
            things.forEach(t -> s.things.add(t.copy()));
            s.turns.addAll(turns);
            s.pointer = pointer;
            s.day = day;
            return s;
        }
    }

    private State now = new State();
    private final List<State> past = new ArrayList<>();
    private String text = "";

    private boolean noMember(int member) {
        return member < 0 || member >= now.people.size();
    }

    private boolean noTool(int tool) {
        return tool < 0 || tool >= now.things.size();
    }

    private static boolean out(int value, int least, int most) {
        return value < least || value > most;
    }

    private List<Integer> remaining() {
        return IntStream.range(0, now.people.size()).filter(i -> !now.people.get(i).gone()).boxed()
                .collect(Collectors.toList());
    }

    private void record() {
        past.add(now.copy());
        if (past.size() == 5) {
            past.remove(0);
        }
    }

    private static int indexOf(String where, String... all) {
        return List.of(all).indexOf(where);
    }

    /** Kind -1 is a gain. */
    private void share(int quarters, int kind, List<Integer> among) {
        int rest = quarters % among.size();
        List<Integer> order = new ArrayList<>(among);
        int from = now.pointer;
        order.sort(Comparator.comparingInt(i -> (i - from + 10) % 10));
        for (int place = 0; place < order.size(); place++) {
            int part = quarters / among.size() + (place < rest ? 1 : 0);
            Person person = now.people.get(order.get(place));
            if (kind < 0) {
                person.shared += part;
            }
            for (int i = 0; i < part; i++) {
                if (kind < 0) {
                    person.gainQuarter();
                } else {
                    person.chargeQuarter(kind);
                }
            }
        }
        if (rest > 0) {
            now.pointer = (order.get(rest - 1) + 1) % 10;
        }
    }

    private void charge(int member, int kind, int quarters) {
        for (int i = 0; i < quarters; i++) {
            now.people.get(member).chargeQuarter(kind);
        }
    }

    private void givenTo(int member, int quarters) {
        now.people.get(member).given += quarters;
        for (int i = 0; i < quarters; i++) {
            now.people.get(member).gainQuarter();
        }
    }

    public int set(int what, int value) {
        if (out(what, 0, 6) || out(value, RANGES[what][0], RANGES[what][1])) {
            return INVALID;
        }
        record();
        int old = now.settings[what];
        now.settings[what] = value;
        return old;
    }

    public int member() {
        if (now.people.size() == 10) {
            return LIMIT;
        }
        record();
        now.people.add(new Person());
        now.turns.add(now.people.size() - 1);
        return now.people.size() - 1;
    }

    public int away(int member, int away) {
        if (noMember(member) || out(away, 0, 1)) {
            return INVALID;
        }
        if (now.people.get(member).gone()) {
            return NOT_POSSIBLE;
        }
        record();
        int was = now.people.get(member).where.equals("away") ? 1 : 0;
        now.people.get(member).where = away == 1 ? "away" : "there";
        return was;
    }

    public int leave(int member) {
        if (noMember(member)) {
            return INVALID;
        }
        Person person = now.people.get(member);
        boolean held = now.things.stream().anyMatch(t -> (t.where.equals("lent") || t.where.equals("lost"))
                && t.who == member);
        boolean judges = now.things.stream().anyMatch(t -> t.where.equals("lost") && t.panel.containsKey(member));
        List<Integer> others = remaining();
        others.remove((Integer) member);
        if (person.gone() || held || judges || person.owes() > 0 || others.isEmpty()) {
            return NOT_POSSIBLE;
        }
        record();
        person = now.people.get(member);
        int credit = person.credit;
        person.handedOn += credit;
        person.credit = 0;
        person.where = "gone";
        now.turns.remove((Integer) member);
        share(credit, -1, others);
        return credit;
    }

    private int giveUnrecorded(int member, int quarters) {
        if (noMember(member) || out(quarters, 1, 400)) {
            return INVALID;
        }
        if (now.people.get(member).gone()) {
            return NOT_POSSIBLE;
        }
        givenTo(member, quarters);
        return now.people.get(member).credit;
    }

    /** Records the state ahead of a call, and takes it back if the call is an error. */
    private int recorded(java.util.function.IntSupplier call) {
        List<State> before = new ArrayList<>(past);
        record();
        int answer = call.getAsInt();
        if (answer < 0) {
            past.clear();
            past.addAll(before);
        }
        return answer;
    }

    public int give(int member, int quarters) {
        return recorded(() -> giveUnrecorded(member, quarters));
    }

    public int memberOf(int member, int what) {
        if (noMember(member) || out(what, 0, 13)) {
            return INVALID;
        }
        Person p = now.people.get(member);
        if (what == 13) {
            return p.gone() ? NOT_FOUND : now.turns.indexOf(member);
        }
        int has = (int) now.things.stream().filter(t -> t.where.equals("lent") && t.who == member).count();
        int[] all = {indexOf(p.where, "there", "away", "gone"), p.given, p.shared, p.credit, p.handedOn, p.paid[0],
            p.paid[1], p.paid[2], p.open[0], p.open[1], p.open[2], p.panels, has};
        return all[what];
    }

    public int account(int what) {
        if (out(what, 1, 11)) {
            return INVALID;
        }
        return what == 11 ? now.pointer : IntStream.range(0, now.people.size()).map(i -> memberOf(i, what)).sum();
    }

    private static int nth(List<Integer> all, int index) {
        return index < 0 ? INVALID : index < all.size() ? all.get(index) : NOT_FOUND;
    }

    public int debtorAt(int index) {
        return nth(IntStream.range(0, now.people.size()).filter(i -> now.people.get(i).owes() > 0).boxed()
                .sorted(Comparator.comparingInt(i -> -now.people.get(i).owes())).collect(Collectors.toList()), index);
    }

    public int tool(int kind, int value, int wear) {
        if (out(kind, 0, 1) || out(value, 1, 400) || out(wear, 0, 50)) {
            return INVALID;
        }
        if (now.things.size() == 20) {
            return LIMIT;
        }
        record();
        Thing thing = new Thing();
        thing.kind = kind;
        thing.value = value;
        thing.wear = wear;
        now.things.add(thing);
        return now.things.size() - 1;
    }

    public int hang(int tool, int wall, int hook) {
        if (noTool(tool) || out(wall, 0, 2) || out(hook, 0, 3)) {
            return INVALID;
        }
        Thing thing = now.things.get(tool);
        boolean wrongWall = wall == 0 && thing.kind == 1 || wall == 1 && thing.kind == 0;
        if (!thing.where.equals("shed") || !thing.hook.isEmpty() || hookAt(wall, hook) >= 0 || wrongWall) {
            return NOT_POSSIBLE;
        }
        record();
        now.things.get(tool).hook = "" + wall + hook;
        return (int) IntStream.range(0, 4).filter(h -> hookAt(wall, h) >= 0).count();
    }

    private int borrowUnrecorded(int tool, int member) {
        if (noTool(tool) || noMember(member)) {
            return INVALID;
        }
        Thing thing = now.things.get(tool);
        Person person = now.people.get(member);
        long has = now.things.stream().filter(t -> List.of("lent", "lost").contains(t.where) && t.who == member)
                .count();
        if (!thing.where.equals("shed") || !person.where.equals("there") || person.owes() > 0 || has >= 3) {
            return NOT_POSSIBLE;
        }
        takeOut(thing, "lent", member, now.settings[1]);
        return thing.due;
    }

    private void takeOut(Thing thing, String where, int who, int days) {
        thing.where = where;
        thing.who = who;
        thing.out = now.day;
        thing.due = now.day + days;
        thing.agreed = days;
        thing.times++;
        thing.hook = "";
    }

    public int borrow(int tool, int member) {
        return recorded(() -> borrowUnrecorded(tool, member));
    }

    private int giveBackUnrecorded(int tool) {
        if (noTool(tool)) {
            return INVALID;
        }
        Thing thing = now.things.get(tool);
        if (!thing.where.equals("lent")) {
            return NOT_POSSIBLE;
        }
        int quarters = now.day > thing.due ? (now.day - thing.due) * now.settings[2] : 0;
        charge(thing.who, 1, quarters);
        thing.sharp = thing.dull(now.day == thing.out ? 1 : now.day - thing.out);
        thing.where = "shed";
        return quarters;
    }

    public int giveBack(int tool) {
        return recorded(() -> giveBackUnrecorded(tool));
    }

    public int toolOf(int tool, int what) {
        if (noTool(tool) || out(what, 0, 8)) {
            return INVALID;
        }
        Thing t = now.things.get(tool);
        boolean home = List.of("shed", "gone").contains(t.where);
        int[] all = {t.kind, t.value, t.wear, indexOf(t.where, "shed", "lent", "lost", "other", "gone"),
            home ? NOT_FOUND : t.who, home ? NOT_FOUND : t.due, (int) (t.sharp * 1000f), t.times,
            t.hook.isEmpty() ? NOT_FOUND : Integer.parseInt(t.hook)};
        return all[what];
    }

    public int bits(int tool) {
        return noTool(tool) ? INVALID : Float.floatToIntBits(now.things.get(tool).sharp);
    }

    public int dullBehind(int tool, int days) {
        if (noTool(tool) || out(days, 1, 200)) {
            return INVALID;
        }
        Thing thing = now.things.get(tool);
        return thing.where.equals("gone") ? NOT_POSSIBLE : (int) (thing.dull(days) * 1000f);
    }

    public int mean(int kind) {
        if (out(kind, 0, 1)) {
            return INVALID;
        }
        double sum = 0;
        int number = 0;
        for (Thing thing : now.things) {
            if (thing.kind == kind && thing.where.equals("shed")) {
                sum += thing.sharp;
                number++;
            }
        }
        return number == 0 ? NOT_FOUND : (int) (sum / number * 1000);
    }

    public int hookAt(int wall, int hook) {
        if (out(wall, 0, 2) || out(hook, 0, 3)) {
            return INVALID;
        }
        return IntStream.range(0, now.things.size()).filter(i -> now.things.get(i).hook.equals("" + wall + hook))
                .findFirst().orElse(NOT_FOUND);
    }

    private List<Integer> cutters() {
        return IntStream.range(0, now.things.size()).boxed()
                .filter(i -> now.things.get(i).kind == 0 && now.things.get(i).where.equals("shed"))
                .sorted(Comparator.comparing(i -> now.things.get(i).sharp)).collect(Collectors.toList());
    }

    private int sharpenUnrecorded() {
        Integer member = now.turns.stream().filter(i -> now.people.get(i).where.equals("there")).findFirst()
                .orElse(null);
        if (member == null) {
            return NOT_POSSIBLE;
        }
        List<Integer> cutters = cutters();
        if (cutters.isEmpty() || (int) (now.things.get(cutters.get(0)).sharp * 1000f) >= now.settings[4]) {
            return NOT_FOUND;
        }
        Thing thing = now.things.get(cutters.get(0));
        thing.sharp = thing.sharp + (1 - thing.sharp) * now.settings[5] / 100;
        givenTo(member, now.settings[3]);
        now.turns.remove(member);
        now.turns.add(member);
        return cutters.get(0);
    }

    public int sharpen() {
        return recorded(this::sharpenUnrecorded);
    }

    public int swap(int one, int other) {
        if (noMember(one) || noMember(other) || one == other) {
            return INVALID;
        }
        if (now.people.get(one).gone() || now.people.get(other).gone()) {
            return NOT_POSSIBLE;
        }
        record();
        java.util.Collections.swap(now.turns, now.turns.indexOf(one), now.turns.indexOf(other));
        return now.turns.indexOf(one);
    }

    public int turnAt(int index) {
        return nth(now.turns, index);
    }

    public int dullAt(int index) {
        return nth(cutters(), index);
    }

    public int lose(int tool) {
        if (noTool(tool)) {
            return INVALID;
        }
        Thing thing = now.things.get(tool);
        List<Integer> panel = IntStream.range(0, now.people.size()).boxed()
                .filter(i -> i != thing.who && now.people.get(i).where.equals("there"))
                .sorted(Comparator.comparingInt(i -> now.people.get(i).panels)).limit(3).sorted()
                .collect(Collectors.toList());
        if (!thing.where.equals("lent") || panel.size() < 3) {
            return NOT_POSSIBLE;
        }
        record();
        thing.where = "lost";
        thing.panel.clear();
        for (int member : panel) {
            now.people.get(member).panels++;
            thing.panel.put(member, -1);
        }
        return panel.get(0);
    }

    public int say(int tool, int member, int word) {
        if (noTool(tool) || noMember(member) || out(word, 0, 2)) {
            return INVALID;
        }
        Thing thing = now.things.get(tool);
        if (!thing.where.equals("lost") || thing.panel.getOrDefault(member, 9) != -1) {
            return NOT_POSSIBLE;
        }
        record();
        boolean second = thing.panel.containsValue(word);
        thing.panel.put(member, word);
        int decided = second ? word : thing.panel.containsValue(-1) ? 3 : 2;
        if (decided == 3) {
            return 3;
        }
        List<Integer> others = remaining();
        if (decided == 1) {
            share(thing.value, 1, others);
        } else {
            int part = decided == 2 ? thing.value / 2 : 0;
            others.remove((Integer) thing.who);
            charge(thing.who, 1, thing.value - part);
            share(part, 1, others);
        }
        thing.where = "gone";
        thing.proposal = null;
        return decided;
    }

    public int find(int tool) {
        if (noTool(tool)) {
            return INVALID;
        }
        Thing thing = now.things.get(tool);
        if (!thing.where.equals("lost")) {
            return NOT_POSSIBLE;
        }
        record();
        thing.where = "shed";
        return (int) thing.panel.values().stream().filter(w -> w >= 0).count();
    }

    public int panelAt(int tool, int index, int what) {
        if (noTool(tool) || out(index, 0, 2) || out(what, 0, 1)) {
            return INVALID;
        }
        Thing thing = now.things.get(tool);
        if (!thing.where.equals("lost")) {
            return NOT_FOUND;
        }
        int member = thing.panel.keySet().stream().sorted().collect(Collectors.toList()).get(index);
        int word = thing.panel.get(member);
        return what == 0 ? member : word < 0 ? NOT_FOUND : word;
    }

    public int propose(int tool, int cost, int better) {
        if (noTool(tool) || out(cost, 1, 400) || out(better, 1, now.things.get(tool).wear)) {
            return INVALID;
        }
        Thing thing = now.things.get(tool);
        if (thing.where.equals("gone") || thing.proposal != null || remaining().isEmpty()) {
            return NOT_POSSIBLE;
        }
        record();
        thing.proposal = new int[] {cost, better, now.day + now.settings[6]};
        thing.votes.clear();
        return thing.proposal[2];
    }

    public int vote(int tool, int member, int yes) {
        if (noTool(tool) || noMember(member) || out(yes, 0, 1)) {
            return INVALID;
        }
        Thing thing = now.things.get(tool);
        if (thing.proposal == null || now.people.get(member).gone() || thing.votes.containsKey(member)) {
            return NOT_POSSIBLE;
        }
        record();
        thing.votes.put(member, yes);
        int all = remaining().size();
        if (thing.votesWith(1) > all / 2.0) {
            share(thing.proposal[0], 2, remaining());
            thing.wear -= thing.proposal[1];
            thing.proposal = null;
            return 1;
        }
        if (thing.votesWith(0) * 2 >= all) {
            thing.proposal = null;
            return 0;
        }
        return 2;
    }

    public int proposalOf(int tool, int what) {
        if (noTool(tool) || out(what, 0, 4)) {
            return INVALID;
        }
        Thing thing = now.things.get(tool);
        if (thing.proposal == null) {
            return NOT_FOUND;
        }
        return what < 3 ? thing.proposal[what] : thing.votesWith(4 - what);
    }

    public int lendOut(int tool, int shed, int days, int fee) {
        if (noTool(tool) || out(shed, 0, 3) || out(days, 1, 60) || out(fee, 0, 40)) {
            return INVALID;
        }
        Thing thing = now.things.get(tool);
        if (!thing.where.equals("shed")) {
            return NOT_POSSIBLE;
        }
        record();
        takeOut(thing, "other", shed, days);
        thing.fee = fee;
        return thing.due;
    }

    public int comeBack(int tool) {
        if (noTool(tool)) {
            return INVALID;
        }
        Thing thing = now.things.get(tool);
        if (!thing.where.equals("other") || remaining().isEmpty()) {
            return NOT_POSSIBLE;
        }
        record();
        int days = now.day == thing.out ? 1 : now.day - thing.out;
        int quarters = 0;
        for (int day = 1; day <= days; day++) {
            quarters += day <= thing.agreed ? thing.fee : 2 * thing.fee;
        }
        share(quarters, -1, remaining());
        thing.sharp = thing.dull(days);
        thing.where = "shed";
        return quarters;
    }

    public int pass(int days) {
        if (out(days, 1, 60)) {
            return INVALID;
        }
        if (now.day + days > 3000) {
            return LIMIT;
        }
        record();
        for (int i = 0; i < days; i++) {
            now.day++;
            if (now.day % 30 == 0) {
                remaining().forEach(m -> charge(m, 0, now.settings[0]));
            }
            for (Thing thing : now.things) {
                if (thing.proposal != null && thing.proposal[2] < now.day) {
                    thing.proposal = null;
                }
            }
        }
        return now.day;
    }

    public int count(int what) {
        if (out(what, 0, 26) || what > 11 && what < 20) {
            return INVALID;
        }
        if (what >= 20) {
            return now.settings[what - 20];
        }
        if (what <= 2) {
            return (int) now.people.stream().filter(p -> indexOf(p.where, "there", "away", "gone") == what).count();
        }
        if (what <= 7) {
            return (int) IntStream.range(0, now.things.size()).filter(i -> toolOf(i, 3) == what - 3).count();
        }
        long proposals = now.things.stream().filter(t -> t.proposal != null).count();
        return new int[] {(int) proposals, now.day, past.size(), text.length()}[what - 8];
    }

    public int undo() {
        if (past.isEmpty()) {
            return NOT_POSSIBLE;
        }
        now = past.remove(past.size() - 1);
        return past.size();
    }

    public int type(int character) {
        if (out(character, 32, 126)) {
            return INVALID;
        }
        if (text.length() == 60) {
            return LIMIT;
        }
        text += (char) character;
        return text.length();
    }

    public int clearText() {
        int length = text.length();
        text = "";
        return length;
    }

    private static final Pattern ORDER = Pattern.compile("(?:([gl])([0-9]{1,3}),([0-9]{1,3})|(b)([0-9]{1,3})|(s));");

    /** The position and the reason of the fault, or -1 and the number of orders. */
    private int[] doText() {
        int done = 0;
        int position = 0;
        while (position < text.length()) {
            Matcher order = ORDER.matcher(text).region(position, text.length());
            if (!order.lookingAt()) {
                return new int[] {position, 1};
            }
            int answer;
            boolean none = false;
            if (order.group(1) != null) {
                int first = Integer.parseInt(order.group(2));
                int second = Integer.parseInt(order.group(3));
                boolean give = order.group(1).equals("g");
                none = give ? noMember(first) : noTool(first) || noMember(second);
                answer = none ? INVALID : give ? giveUnrecorded(first, second) : borrowUnrecorded(first, second);
            } else if (order.group(4) != null) {
                int tool = Integer.parseInt(order.group(5));
                none = noTool(tool);
                answer = none ? INVALID : giveBackUnrecorded(tool);
            } else {
                answer = sharpenUnrecorded();
            }
            if (answer < 0) {
                return new int[] {position, none ? 2 : 3};
            }
            done++;
            position = order.end();
        }
        return new int[] {-1, done};
    }

    public int fault(int what) {
        if (out(what, 0, 1)) {
            return INVALID;
        }
        State before = now.copy();
        int[] told = doText();
        now = before;
        return told[0] < 0 ? NOT_FOUND : told[what];
    }

    public int play() {
        State before = now.copy();
        int[] told = doText();
        if (told[0] >= 0) {
            now = before;
            return NOT_POSSIBLE;
        }
        State after = now;
        now = before;
        record();
        now = after;
        return told[1];
    }
}
