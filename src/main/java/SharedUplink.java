import java.util.Arrays;

/**
 * Five terminals that share the slots of three carriers up to a satellite. The numbers in the
 * comments of {@link #play} are the steps of a superframe in the document.
 */
public final class SharedUplink {
    public static final int NONE = -1;

    private static final int TERMINALS = 5;
    private static final int CARRIERS = 3;
    private static final int SLOTS = 10;
    private static final int DOOR = 0;
    private static final int ALL_SLOTS = SLOTS * CARRIERS;
    private static final int ALL_PLACES = ALL_SLOTS - 1;
    private static final int MOST_SUPERFRAMES = 500;

    /** How many superframes lie between what the centre tells and its coming. */
    private static final int DELAY = 2;

    private static final int OFF = 0;
    private static final int ASKING = 1;
    private static final int WAITING = 2;
    private static final int STEADY = 3;

    private static final int MOST_GUARANTEE = 5;
    private static final int MOST_WEIGHT = 4;
    private static final int MOST_DRIFT = 4;
    private static final int MOST_OFFSET = 8;
    private static final int MOST_DUE = 9;

    private static final int MOST_CELLS_OF_DATAGRAM = 6;
    private static final int MOST_CELLS_KEPT = 24;
    private static final int MOST_DATAGRAMS = 60;
    private static final int MOST_SENDINGS = 4;

    private static final int STEADY_WITHOUT_OFFSET = 5;
    private static final int IN_WITHOUT_BURST = 7;

    private final Terminal[] terminals;
    private final Account[] accounts;
    private final Planner planner;
    private final int[][] plans;
    private final Burst[] bursts;
    private final boolean[] lost;
    private final int[] heardOf;
    private int doorBursts;
    private int playedCount;
    private int missedCount;

    public SharedUplink() {
        terminals = new Terminal[TERMINALS];
        accounts = new Account[TERMINALS];
        for (int t = 0; t < TERMINALS; t++) {
            terminals[t] = new Terminal();
            accounts[t] = new Account();
        }
        planner = new Planner();
        plans = new int[DELAY][ALL_SLOTS];
        for (int i = 0; i < DELAY; i++) {
            Arrays.fill(plans[i], NONE);
        }
        bursts = new Burst[ALL_SLOTS];
        for (int at = 0; at < ALL_SLOTS; at++) {
            bursts[at] = new Burst();
        }
        lost = new boolean[ALL_SLOTS];
        heardOf = new int[ALL_SLOTS];
        Arrays.fill(heardOf, NONE);
    }

    public void rates(int t, int guarantee, int weight) throws IllegalArgumentException {
        if (!isTerminal(t)) {
            throw new IllegalArgumentException("there is no such terminal");
        }
        if (!isWithin(guarantee, 0, MOST_GUARANTEE) || !isWithin(weight, 1, MOST_WEIGHT)) {
            throw new IllegalArgumentException("there is no such guarantee or weight");
        }
        terminals[t].guarantee = guarantee;
        terminals[t].weight = weight;
    }

    public boolean power(int t, boolean on) throws IllegalArgumentException {
        if (!isTerminal(t)) {
            throw new IllegalArgumentException("there is no such terminal");
        }
        Terminal it = terminals[t];
        if (on == (it.state != OFF)) {
            return false;
        }
        if (on) {
            it.ask();
        } else {
            it.switchOff();
        }
        return true;
    }

    public void drift(int t, int parts) throws IllegalArgumentException {
        if (!isTerminal(t)) {
            throw new IllegalArgumentException("there is no such terminal");
        }
        if (!isWithin(parts, -MOST_DRIFT, MOST_DRIFT)) {
            throw new IllegalArgumentException("there is no such drift");
        }
        terminals[t].parts = parts;
    }

    public int send(int t, int cells) throws IllegalArgumentException, IllegalStateException {
        if (!isTerminal(t)) {
            throw new IllegalArgumentException("there is no such terminal");
        }
        if (!isWithin(cells, 1, MOST_CELLS_OF_DATAGRAM)) {
            throw new IllegalArgumentException("a datagram has 1 to 6 cells");
        }
        if (!terminals[t].backlog.hasRoom(cells)) {
            throw new IllegalStateException("too many cells or datagrams");
        }
        return terminals[t].backlog.add(cells);
    }

    public void lose(int slot, int carrier) throws IllegalArgumentException {
        if (!isSlot(slot, carrier)) {
            throw new IllegalArgumentException("there is no such slot");
        }
        lost[positionOf(slot, carrier)] = true;
    }

    public int play() throws IllegalStateException {
        if (playedCount >= MOST_SUPERFRAMES) {
            throw new IllegalStateException("all superframes were played");
        }
        int k = playedCount;
        takeWhatWasTold(k); // 1
        checkTimes(k); // 2
        driftOffsets(); // 3
        int sent = sendBursts(k); // 4
        int heardCount = listen(); // 5
        moveLevels(k); // 6
        noteHeard(k); // 7
        tell(k); // 8
        missedCount += sent - heardCount;
        playedCount++;
        return heardCount;
    }

    public int played() {
        return playedCount;
    }

    public int terminal(int t, int what) throws IllegalArgumentException {
        if (!isTerminal(t)) {
            throw new IllegalArgumentException("there is no such terminal");
        }
        Terminal it = terminals[t];
        switch (what) {
            case 0:
                return it.state;
            case 1:
                return it.state == ASKING ? it.level : NONE;
            case 2:
                return it.offset;
            case 3:
                return it.backlog.countFresh();
            case 4:
                return it.backlog.countUnderWay();
            case 5:
                return it.backlog.base();
            case 6:
                return it.failed;
            default:
                throw new IllegalArgumentException("a terminal has nothing of that kind");
        }
    }

    public int centre(int t, int what) throws IllegalArgumentException {
        if (!isTerminal(t)) {
            throw new IllegalArgumentException("there is no such terminal");
        }
        Account it = accounts[t];
        switch (what) {
            case 0:
                return it.in ? 1 : 0;
            case 1:
                return it.needs;
            case 2:
                return it.expected;
            case 3:
                return it.arrived;
            case 4:
                return it.latestArrived;
            default:
                throw new IllegalArgumentException("the centre knows nothing of that kind");
        }
    }

    public int plan(int slot, int carrier, int ahead) throws IllegalArgumentException {
        if (!isSlot(slot, carrier)) {
            throw new IllegalArgumentException("there is no such slot");
        }
        if (!isAhead(ahead)) {
            throw new IllegalArgumentException("there is no such plan");
        }
        return planOf(playedCount + ahead)[positionOf(slot, carrier)];
    }

    public int places(int t, int ahead) throws IllegalArgumentException {
        if (!isTerminal(t)) {
            throw new IllegalArgumentException("there is no such terminal");
        }
        if (!isAhead(ahead)) {
            throw new IllegalArgumentException("there is no such plan");
        }
        int[] row = planOf(playedCount + ahead);
        int count = 0;
        for (int at = 0; at < ALL_SLOTS; at++) {
            if (row[at] == t) {
                count++;
            }
        }
        return count;
    }

    public int heard(int slot, int carrier) throws IllegalArgumentException {
        if (!isSlot(slot, carrier)) {
            throw new IllegalArgumentException("there is no such slot");
        }
        return heardOf[positionOf(slot, carrier)];
    }

    public int missed() {
        return missedCount;
    }

    private static boolean isWithin(int number, int least, int most) {
        return number >= least && number <= most;
    }

    private static boolean isTerminal(int t) {
        return isWithin(t, 0, TERMINALS - 1);
    }

    private static boolean isSlot(int slot, int carrier) {
        return isWithin(slot, 0, SLOTS - 1) && isWithin(carrier, 0, CARRIERS - 1);
    }

    private static boolean isAhead(int ahead) {
        return isWithin(ahead, 0, DELAY - 1);
    }

    /** Slots count before carriers, so that going up by index is the document's order. */
    private static int positionOf(int slot, int carrier) {
        return slot * CARRIERS + carrier;
    }

    /** Only two plans are alive at a time, so those of superframes k and k + 2 share a row. */
    private int[] planOf(int superframe) {
        return plans[superframe & 1];
    }

    private void takeWhatWasTold(int k) {
        for (int t = 0; t < TERMINALS; t++) {
            terminals[t].take(accounts[t].reportOf(k - DELAY), k);
        }
    }

    private void checkTimes(int k) {
        for (int t = 0; t < TERMINALS; t++) {
            Terminal it = terminals[t];
            if (it.state == STEADY && k - it.latestTold >= STEADY_WITHOUT_OFFSET) {
                it.ask();
            }
            it.failed += it.backlog.giveUpOrRenew(k - DELAY);
        }
    }

    private void driftOffsets() {
        for (int t = 0; t < TERMINALS; t++) {
            terminals[t].offset += terminals[t].parts;
        }
    }

    private int sendBursts(int k) {
        sendInDoor();
        int sent = doorBursts;
        int[] row = planOf(k);
        for (int at = DOOR + 1; at < ALL_SLOTS; at++) {
            int t = row[at];
            bursts[at].sender = NONE;
            if (isTerminal(t) && terminals[t].state == STEADY) {
                bursts[at].sender = t;
                terminals[t].backlog.load(bursts[at], k);
                sent++;
            }
        }
        return sent;
    }

    private void sendInDoor() {
        doorBursts = 0;
        bursts[DOOR].sender = NONE;
        for (int t = 0; t < TERMINALS; t++) {
            if (terminals[t].state == ASKING && terminals[t].level == 0) {
                bursts[DOOR].sender = t;
                doorBursts++;
            }
        }
    }

    private int listen() {
        int count = 0;
        for (int slot = 0; slot < SLOTS; slot++) {
            for (int carrier = 0; carrier < CARRIERS; carrier++) {
                int at = positionOf(slot, carrier);
                heardOf[at] = isHeard(slot, carrier) ? bursts[at].sender : NONE;
                lost[at] = false;
                if (heardOf[at] != NONE) {
                    count++;
                }
            }
        }
        return count;
    }

    private boolean isHeard(int slot, int carrier) {
        int at = positionOf(slot, carrier);
        if (bursts[at].sender == NONE || lost[at]) {
            return false;
        }
        if (at == DOOR) {
            return doorBursts == 1;
        }
        return isWithin(offsetIn(slot, carrier), -MOST_OFFSET, MOST_OFFSET)
                && offsetIn(slot - 1, carrier) <= MOST_OFFSET
                && offsetIn(slot + 1, carrier) >= -MOST_OFFSET;
    }

    /** Where no burst is, and in the door, nothing disturbs: that counts as an offset of 0. */
    private int offsetIn(int slot, int carrier) {
        if (!isSlot(slot, carrier) || positionOf(slot, carrier) == DOOR) {
            return 0;
        }
        int sender = bursts[positionOf(slot, carrier)].sender;
        return isTerminal(sender) ? terminals[sender].offset : 0;
    }

    private void moveLevels(int k) {
        int letIn = heardOf[DOOR];
        if (isTerminal(letIn)) {
            terminals[letIn].state = WAITING;
        }
        for (int t = 0; t < TERMINALS; t++) {
            Terminal it = terminals[t];
            if (it.state == ASKING) {
                it.level = doorBursts > 1 ? levelUp(it.level, k, t) : Math.max(it.level - 1, 0);
            }
        }
    }

    /** Whoever has level 0 here was one of those that met in the door. */
    private static int levelUp(int level, int k, int t) {
        return level > 0 ? level + 1 : coin(k, t);
    }

    private static int coin(int k, int t) {
        return (37 * k + 101 * t + 11) >> 3 & 1;
    }

    private void noteHeard(int k) {
        if (isTerminal(heardOf[DOOR])) {
            accounts[heardOf[DOOR]].noteInDoor(k);
        }
        for (int at = DOOR + 1; at < ALL_SLOTS; at++) {
            if (isTerminal(heardOf[at])) {
                accounts[heardOf[at]].noteInPlace(bursts[at], k);
            }
        }
        for (int t = 0; t < TERMINALS; t++) {
            accounts[t].forgetIfSilent(k);
        }
    }

    private void tell(int k) {
        for (int t = 0; t < TERMINALS; t++) {
            accounts[t].startReport(k, terminals[t].offset);
        }
        if (isTerminal(heardOf[DOOR])) {
            accounts[heardOf[DOOR]].reportOf(k).letIn = true;
        }
        for (int at = DOOR + 1; at < ALL_SLOTS; at++) {
            if (isTerminal(heardOf[at])) {
                accounts[heardOf[at]].reportOf(k).addCellOf(bursts[at]);
            }
        }
        planner.fill(planOf(k + DELAY), terminals, accounts);
    }

    private static final class Terminal {
        int guarantee;
        int weight = 1;
        int offset;
        int parts;
        int state = OFF;
        int level;
        int latestTold;
        int failed;
        final Backlog backlog = new Backlog();

        void ask() {
            state = ASKING;
            level = 0;
        }

        void switchOff() {
            state = OFF;
            backlog.startAnew();
        }

        void take(Report report, int k) {
            if (state == WAITING && report.letIn) {
                state = STEADY;
                latestTold = k;
            }
            if (state != STEADY) {
                return;
            }
            if (report.measured) {
                offset -= report.offset;
                latestTold = k;
            }
            backlog.dropReported(report);
        }
    }

    private static final class Cell {
        int datagram;
        int index;
        int cells;
        boolean underWay;
        boolean gone;
        int sendings;
        int sentIn;
    }

    /** The cells of a terminal that are not gone, by datagrams, then cells. */
    private static final class Backlog {
        private final Cell[] kept = new Cell[MOST_CELLS_KEPT];
        private int count;
        private int made;

        Backlog() {
            for (int i = 0; i < MOST_CELLS_KEPT; i++) {
                kept[i] = new Cell();
            }
        }

        boolean hasRoom(int cells) {
            return count + cells <= MOST_CELLS_KEPT && made < MOST_DATAGRAMS;
        }

        int add(int cells) {
            made++;
            for (int index = 0; index < cells && count < MOST_CELLS_KEPT; index++) {
                Cell cell = kept[count];
                cell.datagram = made;
                cell.index = index;
                cell.cells = cells;
                cell.underWay = false;
                cell.gone = false;
                cell.sendings = 0;
                count++;
            }
            return made;
        }

        int countUnderWay() {
            int found = 0;
            for (int i = 0; i < count; i++) {
                if (kept[i].underWay) {
                    found++;
                }
            }
            return found;
        }

        int countFresh() {
            return count - countUnderWay();
        }

        int base() {
            return count > 0 ? kept[0].datagram : made + 1;
        }

        void startAnew() {
            for (int i = 0; i < count; i++) {
                kept[i].underWay = false;
                kept[i].sendings = 0;
            }
        }

        void load(Burst burst, int k) {
            burst.datagram = NONE;
            for (int i = 0; i < count; i++) {
                if (!kept[i].underWay) {
                    sendCell(kept[i], burst, k);
                    break;
                }
            }
            burst.left = countFresh();
            burst.base = base();
        }

        private static void sendCell(Cell cell, Burst burst, int k) {
            cell.underWay = true;
            cell.sendings++;
            cell.sentIn = k;
            burst.datagram = cell.datagram;
            burst.index = cell.index;
            burst.cells = cell.cells;
        }

        void dropReported(Report report) {
            for (int i = 0; i < count; i++) {
                if (report.namesCell(kept[i].datagram, kept[i].index)) {
                    kept[i].gone = true;
                }
            }
            dropGone();
        }

        /** Answers how many datagrams failed. */
        int giveUpOrRenew(int latest) {
            int failures = 0;
            for (int i = 0; i < count; i++) {
                Cell cell = kept[i];
                if (!cell.gone && cell.underWay && cell.sentIn <= latest) {
                    if (cell.sendings >= MOST_SENDINGS) {
                        markDatagramGone(cell.datagram);
                        failures++;
                    } else {
                        cell.underWay = false;
                    }
                }
            }
            dropGone();
            return failures;
        }

        private void markDatagramGone(int datagram) {
            for (int i = 0; i < count; i++) {
                if (kept[i].datagram == datagram) {
                    kept[i].gone = true;
                }
            }
        }

        /** Swaps instead of overwriting, so that the objects of gone cells serve new ones. */
        private void dropGone() {
            int stay = 0;
            for (int i = 0; i < count; i++) {
                Cell cell = kept[i];
                if (!cell.gone) {
                    kept[i] = kept[stay];
                    kept[stay] = cell;
                    stay++;
                }
            }
            count = stay;
        }
    }

    private static final class Burst {
        int sender = NONE;
        int left;
        int base;
        int datagram = NONE;
        int index;
        int cells;
    }

    /** What the centre tells one terminal at the end of one superframe. */
    private static final class Report {
        boolean letIn;
        boolean measured;
        int offset;
        private int cellCount;
        private final int[] datagrams = new int[SLOTS];
        private final int[] indexes = new int[SLOTS];

        void clear() {
            letIn = false;
            measured = false;
            offset = 0;
            cellCount = 0;
        }

        /** A terminal has one place in a slot at most, so there is room for all its cells. */
        void addCellOf(Burst burst) {
            if (burst.datagram != NONE && cellCount < SLOTS) {
                datagrams[cellCount] = burst.datagram;
                indexes[cellCount] = burst.index;
                cellCount++;
            }
        }

        boolean namesCell(int datagram, int index) {
            for (int i = 0; i < cellCount; i++) {
                if (datagrams[i] == datagram && indexes[i] == index) {
                    return true;
                }
            }
            return false;
        }
    }

    /** What the centre knows of one terminal, and what it told it in the latest superframes. */
    private static final class Account {
        boolean in;
        int needs;
        int expected = 1;
        int arrived;
        int latestArrived;
        private int latestHeard = -IN_WITHOUT_BURST;
        private final int[] cameBits = new int[MOST_DATAGRAMS + 1];
        private final int[] allBits = new int[MOST_DATAGRAMS + 1];
        private final Report evenReport = new Report();
        private final Report oddReport = new Report();

        /** What was told in superframe k - 2 has come when k tells, so both share a report. */
        Report reportOf(int k) {
            return (k & 1) == 0 ? evenReport : oddReport;
        }

        void startReport(int k, int offset) {
            Report before = reportOf(k - 1);
            Report report = reportOf(k);
            report.clear();
            if (latestHeard == k) {
                report.measured = true;
                report.offset = offset - before.offset;
            }
        }

        void noteInDoor(int k) {
            latestHeard = k;
            in = true;
            needs = 0;
        }

        void noteInPlace(Burst burst, int k) {
            latestHeard = k;
            needs = burst.left;
            passBelow(burst.base);
            noteCell(burst);
            passComplete();
        }

        void forgetIfSilent(int k) {
            if (k - latestHeard >= IN_WITHOUT_BURST) {
                in = false;
            }
        }

        private void passBelow(int base) {
            for (; expected < base && expected <= MOST_DATAGRAMS; expected++) {
                if (isComplete(expected)) {
                    countArrived(expected);
                }
            }
        }

        private void passComplete() {
            for (; expected <= MOST_DATAGRAMS && isComplete(expected); expected++) {
                countArrived(expected);
            }
        }

        private void countArrived(int datagram) {
            arrived++;
            latestArrived = datagram;
        }

        private void noteCell(Burst burst) {
            int datagram = burst.datagram;
            if (datagram >= expected && datagram <= MOST_DATAGRAMS) {
                cameBits[datagram] |= 1 << burst.index;
                allBits[datagram] = (1 << burst.cells) - 1;
            }
        }

        /** No bits at all: the centre has heard of no cell, nor of how many there are. */
        private boolean isComplete(int datagram) {
            return isWithin(datagram, 1, MOST_DATAGRAMS)
                    && allBits[datagram] != 0
                    && cameBits[datagram] == allBits[datagram];
        }
    }

    /** Makes plans; the rows are kept from plan to plan. */
    private static final class Planner {
        private final int[] due = new int[TERMINALS];
        private final int[] gotByNeed = new int[TERMINALS];
        private int dueInAll;

        void fill(int[] row, Terminal[] terminals, Account[] accounts) {
            startWithGuarantees(terminals, accounts);
            addByNeed(terminals, accounts);
            addInRounds(accounts);
            givePlaces(row);
        }

        private void startWithGuarantees(Terminal[] terminals, Account[] accounts) {
            dueInAll = 0;
            for (int t = 0; t < TERMINALS; t++) {
                gotByNeed[t] = 0;
                due[t] = accounts[t].in ? Math.max(terminals[t].guarantee, 1) : 0;
                dueInAll += due[t];
            }
        }

        private void addByNeed(Terminal[] terminals, Account[] accounts) {
            for (int i = 0; i < ALL_PLACES && dueInAll < ALL_PLACES; i++) {
                int t = nextByNeed(terminals, accounts);
                if (!isTerminal(t)) {
                    return;
                }
                gotByNeed[t]++;
                addOne(t);
            }
        }

        private int nextByNeed(Terminal[] terminals, Account[] accounts) {
            int best = NONE;
            for (int t = 0; t < TERMINALS; t++) {
                if (mayGetMore(t, accounts) && accounts[t].needs > due[t]
                        && (best == NONE || comesBefore(t, best, terminals))) {
                    best = t;
                }
            }
            return best;
        }

        /** Compares (x + 1) / weight multiplied out, as dividing would round. */
        private boolean comesBefore(int t, int best, Terminal[] terminals) {
            return (gotByNeed[t] + 1) * terminals[best].weight
                    < (gotByNeed[best] + 1) * terminals[t].weight;
        }

        private void addInRounds(Account[] accounts) {
            for (int round = 0; round < MOST_DUE; round++) {
                for (int t = 0; t < TERMINALS; t++) {
                    if (dueInAll < ALL_PLACES && mayGetMore(t, accounts)) {
                        addOne(t);
                    }
                }
            }
        }

        private boolean mayGetMore(int t, Account[] accounts) {
            return accounts[t].in && due[t] < MOST_DUE;
        }

        private void addOne(int t) {
            due[t]++;
            dueInAll++;
        }

        private void givePlaces(int[] row) {
            Arrays.fill(row, NONE);
            for (int slot = 0; slot < SLOTS; slot++) {
                for (int carrier = 0; carrier < CARRIERS; carrier++) {
                    if (positionOf(slot, carrier) != DOOR) {
                        givePlace(row, slot, carrier);
                    }
                }
            }
        }

        private void givePlace(int[] row, int slot, int carrier) {
            int best = NONE;
            for (int t = 0; t < TERMINALS; t++) {
                if (due[t] > 0 && (best == NONE || due[t] > due[best])
                        && canUse(row, t, slot, carrier)) {
                    best = t;
                }
            }
            if (best != NONE) {
                row[positionOf(slot, carrier)] = best;
                due[best]--;
            }
        }

        private static boolean canUse(int[] row, int t, int slot, int carrier) {
            for (int other = 0; other < CARRIERS; other++) {
                if (other == carrier) {
                    continue;
                }
                if (row[positionOf(slot, other)] == t
                        || slot > 0 && row[positionOf(slot - 1, other)] == t) {
                    return false;
                }
            }
            return true;
        }
    }
}
