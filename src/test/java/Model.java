import java.util.ArrayList;
import java.util.HashMap;
import java.util.HashSet;
import java.util.List;
import java.util.Map;
import java.util.Set;

/**
 * The document read a second time, for ModelTest: it keeps the whole past (every telling, every
 * plan, every cell that ever was) and looks things up in it where the program keeps a summary.
 */
final class Model {
    private static final class ACell {
        int datagram;
        int number;
        String state = "fresh";
        List<Integer> sentIn = new ArrayList<>();
    }

    private static final class ATerminal {
        int guarantee = 0;
        int weight = 1;
        int offset = 0;
        int drift = 0;
        int state = 0;
        int level = 0;
        int failed = 0;
        List<List<ACell>> datagrams = new ArrayList<>();
        Set<Integer> toldIn = new HashSet<>();

        List<ACell> cells(String state) {
            List<ACell> found = new ArrayList<>();
            for (List<ACell> datagram : datagrams) {
                for (ACell cell : datagram) {
                    if (cell.state.equals(state)) {
                        found.add(cell);
                    }
                }
            }
            return found;
        }

        int base() {
            for (int i = 0; i < datagrams.size(); i++) {
                for (ACell cell : datagrams.get(i)) {
                    if (!cell.state.equals("gone")) {
                        return i + 1;
                    }
                }
            }
            return datagrams.size() + 1;
        }
    }

    private static final class ABurst {
        int sender;
        int slot;
        int carrier;
        int left;
        int base;
        ACell cell;
        int of;
        boolean heard;

        boolean inDoor() {
            return slot == 0 && carrier == 0;
        }
    }

    private static final class ATelling {
        Map<Integer, Integer> offsets = new HashMap<>();
        List<ABurst> cells = new ArrayList<>();
        Set<Integer> letIn = new HashSet<>();
    }

    private static final class ACentre {
        boolean in = false;
        int needs = 0;
        int expects = 1;
        Set<String> came = new HashSet<>();
        Map<Integer, Integer> sizes = new HashMap<>();
        List<Integer> arrived = new ArrayList<>();
        Set<Integer> heardIn = new HashSet<>();

        boolean allCame(int datagram) {
            if (!sizes.containsKey(datagram)) {
                return false;
            }
            for (int i = 0; i < sizes.get(datagram); i++) {
                if (!came.contains(datagram + "/" + i)) {
                    return false;
                }
            }
            return true;
        }
    }

    private final List<ATerminal> terminals = new ArrayList<>();
    private final List<ACentre> centres = new ArrayList<>();
    private final List<ATelling> tellings = new ArrayList<>();
    private final List<int[][]> plans = new ArrayList<>();
    private final Set<String> lost = new HashSet<>();
    private List<ABurst> bursts = new ArrayList<>();
    private int missed = 0;

    Model() {
        for (int t = 0; t < 5; t++) {
            terminals.add(new ATerminal());
            centres.add(new ACentre());
        }
        plans.add(nobody());
        plans.add(nobody());
    }

    private static int[][] nobody() {
        int[][] plan = new int[10][3];
        for (int[] slot : plan) {
            java.util.Arrays.fill(slot, -1);
        }
        return plan;
    }

    private static void need(boolean right) {
        if (!right) {
            throw new IllegalArgumentException();
        }
    }

    private static void needTerminal(int t) {
        need(t >= 0 && t <= 4);
    }

    private static void needSlot(int slot, int carrier) {
        need(slot >= 0 && slot <= 9 && carrier >= 0 && carrier <= 2);
    }

    void rates(int t, int guarantee, int weight) {
        needTerminal(t);
        need(guarantee >= 0 && guarantee <= 5 && weight >= 1 && weight <= 4);
        terminals.get(t).guarantee = guarantee;
        terminals.get(t).weight = weight;
    }

    boolean power(int t, boolean on) {
        needTerminal(t);
        ATerminal it = terminals.get(t);
        boolean was = it.state != 0;
        if (on && !was) {
            it.state = 1;
            it.level = 0;
        }
        if (!on) {
            it.state = 0;
            for (ACell cell : it.cells("under way")) {
                cell.state = "fresh";
            }
            for (ACell cell : it.cells("fresh")) {
                cell.sentIn.clear();
            }
        }
        return was != on;
    }

    void drift(int t, int parts) {
        needTerminal(t);
        need(parts >= -4 && parts <= 4);
        terminals.get(t).drift = parts;
    }

    int send(int t, int cells) {
        needTerminal(t);
        need(cells >= 1 && cells <= 6);
        ATerminal it = terminals.get(t);
        int open = it.cells("fresh").size() + it.cells("under way").size();
        if (open + cells > 24 || it.datagrams.size() == 60) {
            throw new IllegalStateException();
        }
        List<ACell> datagram = new ArrayList<>();
        it.datagrams.add(datagram);
        for (int i = 0; i < cells; i++) {
            ACell cell = new ACell();
            cell.datagram = it.datagrams.size();
            cell.number = i;
            datagram.add(cell);
        }
        return it.datagrams.size();
    }

    void lose(int slot, int carrier) {
        needSlot(slot, carrier);
        lost.add(slot + "/" + carrier);
    }

    int play() {
        int k = played();
        if (k == 500) {
            throw new IllegalStateException();
        }
        if (k >= 2) {
            comes(tellings.get(k - 2), k);
        }
        timeouts(k);
        for (ATerminal it : terminals) {
            it.offset += it.drift;
        }
        send(k);
        int heard = hear();
        lost.clear();
        levels(k);
        centreHears(k);
        tells(k);
        missed += bursts.size() - heard;
        return heard;
    }

    private void comes(ATelling telling, int k) {
        for (int t = 0; t < 5; t++) {
            ATerminal it = terminals.get(t);
            if (it.state == 2 && telling.letIn.contains(t)) {
                it.state = 3;
                it.toldIn.add(k);
            }
            if (it.state == 3) {
                if (telling.offsets.containsKey(t)) {
                    it.offset -= telling.offsets.get(t);
                    it.toldIn.add(k);
                }
                for (ABurst burst : telling.cells) {
                    if (burst.sender == t) {
                        burst.cell.state = "gone";
                    }
                }
            }
        }
    }

    private void timeouts(int k) {
        for (ATerminal it : terminals) {
            if (it.state == 3) {
                boolean told = false;
                for (int back = 0; back < 5; back++) {
                    told |= it.toldIn.contains(k - back);
                }
                if (!told) {
                    it.state = 1;
                    it.level = 0;
                }
            }
            List<ACell> late = new ArrayList<>();
            for (ACell cell : it.cells("under way")) {
                if (cell.sentIn.get(cell.sentIn.size() - 1) <= k - 2) {
                    late.add(cell);
                }
            }
            Set<Integer> fails = new HashSet<>();
            for (ACell cell : late) {
                cell.state = "fresh";
                if (cell.sentIn.size() == 4) {
                    fails.add(cell.datagram);
                }
            }
            it.failed += fails.size();
            for (int datagram : fails) {
                for (ACell cell : it.datagrams.get(datagram - 1)) {
                    cell.state = "gone";
                }
            }
        }
    }

    private void send(int k) {
        bursts = new ArrayList<>();
        for (int t = 0; t < 5; t++) {
            ATerminal it = terminals.get(t);
            if (it.state == 1 && it.level == 0) {
                bursts.add(burst(t, 0, 0));
            }
            for (int slot = 0; slot < 10 && it.state == 3; slot++) {
                for (int carrier = 0; carrier < 3; carrier++) {
                    if (plans.get(k)[slot][carrier] == t) {
                        ABurst burst = burst(t, slot, carrier);
                        List<ACell> fresh = it.cells("fresh");
                        if (!fresh.isEmpty()) {
                            burst.cell = fresh.get(0);
                            burst.of = it.datagrams.get(burst.cell.datagram - 1).size();
                            burst.cell.state = "under way";
                            burst.cell.sentIn.add(k);
                        }
                        burst.left = it.cells("fresh").size();
                        burst.base = it.base();
                        bursts.add(burst);
                    }
                }
            }
        }
    }

    private static ABurst burst(int t, int slot, int carrier) {
        ABurst burst = new ABurst();
        burst.sender = t;
        burst.slot = slot;
        burst.carrier = carrier;
        return burst;
    }

    private int hear() {
        int count = 0;
        for (ABurst burst : bursts) {
            boolean heard = !lost.contains(burst.slot + "/" + burst.carrier);
            for (ABurst other : bursts) {
                if (burst.inDoor()) {
                    heard &= other == burst || !other.inDoor();
                } else if (other != burst && !other.inDoor() && other.carrier == burst.carrier) {
                    int offset = terminals.get(other.sender).offset;
                    heard &= !(other.slot == burst.slot - 1 && offset > 8);
                    heard &= !(other.slot == burst.slot + 1 && offset < -8);
                }
            }
            if (!burst.inDoor()) {
                heard &= Math.abs(terminals.get(burst.sender).offset) <= 8;
            }
            burst.heard = heard;
            count += heard ? 1 : 0;
        }
        return count;
    }

    private void levels(int k) {
        List<ABurst> door = new ArrayList<>();
        for (ABurst burst : bursts) {
            if (burst.inDoor()) {
                door.add(burst);
            }
        }
        Set<Integer> above = new HashSet<>();
        for (int t = 0; t < 5; t++) {
            if (terminals.get(t).state == 1 && terminals.get(t).level > 0) {
                above.add(t);
            }
        }
        if (door.size() == 1 && door.get(0).heard) {
            terminals.get(door.get(0).sender).state = 2;
        }
        for (ABurst burst : door) {
            int number = 37 * k + 101 * burst.sender + 11;
            if (door.size() > 1 && number / 8 % 2 == 1) {
                terminals.get(burst.sender).level = 1;
            }
        }
        for (int t : above) {
            terminals.get(t).level += door.size() > 1 ? 1 : -1;
        }
    }

    private void centreHears(int k) {
        for (int slot = 0; slot < 10; slot++) {
            for (int carrier = 0; carrier < 3; carrier++) {
                for (ABurst burst : bursts) {
                    if (burst.heard && burst.slot == slot && burst.carrier == carrier) {
                        centreHears(burst, centres.get(burst.sender), k);
                    }
                }
            }
        }
        for (ACentre it : centres) {
            boolean heard = false;
            for (int back = 0; back <= 6; back++) {
                heard |= it.heardIn.contains(k - back);
            }
            it.in &= heard;
        }
    }

    private static void centreHears(ABurst burst, ACentre it, int k) {
        it.heardIn.add(k);
        if (burst.inDoor()) {
            it.in = true;
            it.needs = 0;
            return;
        }
        it.needs = burst.left;
        while (burst.base > it.expects) {
            if (it.allCame(it.expects)) {
                it.arrived.add(it.expects);
            }
            it.expects++;
        }
        if (burst.cell != null && burst.cell.datagram >= it.expects) {
            it.came.add(burst.cell.datagram + "/" + burst.cell.number);
            it.sizes.put(burst.cell.datagram, burst.of);
        }
        while (it.allCame(it.expects)) {
            it.arrived.add(it.expects);
            it.expects++;
        }
    }

    private void tells(int k) {
        ATelling telling = new ATelling();
        for (ABurst burst : bursts) {
            if (burst.heard) {
                int before = k == 0 ? 0 : tellings.get(k - 1).offsets.getOrDefault(burst.sender, 0);
                telling.offsets.put(burst.sender, terminals.get(burst.sender).offset - before);
                if (burst.inDoor()) {
                    telling.letIn.add(burst.sender);
                }
                if (burst.cell != null) {
                    telling.cells.add(burst);
                }
            }
        }
        tellings.add(telling);
        plans.add(newPlan());
    }

    private int[][] newPlan() {
        int[] due = new int[5];
        int[] got = new int[5];
        int all = 0;
        for (int t = 0; t < 5; t++) {
            if (centres.get(t).in) {
                due[t] = terminals.get(t).guarantee == 0 ? 1 : terminals.get(t).guarantee;
                all += due[t];
            }
        }
        while (all < 29) {
            int best = -1;
            for (int t = 4; t >= 0; t--) {
                boolean wants = centres.get(t).in && centres.get(t).needs > due[t] && due[t] < 9;
                if (wants && (best < 0 || share(got, t) <= share(got, best))) {
                    best = t;
                }
            }
            if (best < 0) {
                break;
            }
            due[best]++;
            got[best]++;
            all++;
        }
        boolean more = true;
        while (more) {
            more = false;
            for (int t = 0; t < 5; t++) {
                if (all < 29 && centres.get(t).in && due[t] < 9) {
                    due[t]++;
                    all++;
                    more = true;
                }
            }
        }
        return give(due);
    }

    /** Twelve is a multiple of every weight, so that this is exact. */
    private int share(int[] got, int t) {
        return (got[t] + 1) * 12 / terminals.get(t).weight;
    }

    private static int[][] give(int[] due) {
        int[][] plan = nobody();
        for (int place = 1; place < 30; place++) {
            int slot = place / 3;
            int carrier = place % 3;
            int best = -1;
            for (int t = 4; t >= 0; t--) {
                boolean may = due[t] > 0;
                for (int c = 0; c < 3; c++) {
                    may &= plan[slot][c] != t;
                    may &= c == carrier || slot == 0 || plan[slot - 1][c] != t;
                }
                if (may && (best < 0 || due[t] >= due[best])) {
                    best = t;
                }
            }
            if (best >= 0) {
                plan[slot][carrier] = best;
                due[best]--;
            }
        }
        return plan;
    }

    int played() {
        return tellings.size();
    }

    int terminal(int t, int what) {
        needTerminal(t);
        need(what >= 0 && what <= 6);
        ATerminal it = terminals.get(t);
        int level = it.state == 1 ? it.level : -1;
        int[] answers = {it.state, level, it.offset, it.cells("fresh").size(),
            it.cells("under way").size(), it.base(), it.failed};
        return answers[what];
    }

    int centre(int t, int what) {
        needTerminal(t);
        need(what >= 0 && what <= 4);
        ACentre it = centres.get(t);
        int count = it.arrived.size();
        int latest = count == 0 ? 0 : it.arrived.get(count - 1);
        int[] answers = {it.in ? 1 : 0, it.needs, it.expects, count, latest};
        return answers[what];
    }

    int plan(int slot, int carrier, int ahead) {
        needSlot(slot, carrier);
        need(ahead == 0 || ahead == 1);
        return plans.get(played() + ahead)[slot][carrier];
    }

    int places(int t, int ahead) {
        needTerminal(t);
        need(ahead == 0 || ahead == 1);
        int count = 0;
        for (int[] slot : plans.get(played() + ahead)) {
            for (int owner : slot) {
                count += owner == t ? 1 : 0;
            }
        }
        return count;
    }

    int heard(int slot, int carrier) {
        needSlot(slot, carrier);
        for (ABurst burst : bursts) {
            if (burst.heard && burst.slot == slot && burst.carrier == carrier) {
                return burst.sender;
            }
        }
        return -1;
    }

    int missed() {
        return missed;
    }
}
