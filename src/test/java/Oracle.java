import java.math.BigInteger;
import java.util.ArrayList;
import java.util.Comparator;
import java.util.LinkedHashSet;
import java.util.List;
import java.util.Set;
import java.util.TreeSet;
import java.util.regex.Matcher;
import java.util.regex.Pattern;

/** The document a second time, written as plainly and as unlike the program as can be: sets, lists, copies. */
public final class Oracle {
    private static final String KIND_LETTERS = "nfdlgh";
    private static final Pattern STATEMENT = Pattern.compile(
        "i[0-9][nfdlgh][0-9][0-9];|p[0-9][0-9][0-9][0-9];|e[0-9][0-9][a-z][0-9];|x[0-9][0-9];"
        + "|b[0-9][0-9][0-9][0-9];|m[0-9][0-9];|u[0-9];|c;");
    private static final Pattern TEXT = Pattern.compile("(?:" + STATEMENT.pattern() + ")+");

    private Disk disk = new Disk();
    private Set<Integer> refused = new TreeSet<>();
    private Disk image = null;
    private Set<Integer> imageRefused = null;
    private final StringBuilder text = new StringBuilder();
    private final List<Integer> row = new ArrayList<>();
    private final int[] refusals = new int[7];

    private record Question(int why, int who, int place) {
    }

    private record Entry(int name, int to) {
        int told() {
            return 26 * to + name;
        }
    }

    private static final class Disk {
        int[] kind = new int[10];
        int[] links = new int[10];
        int[] parent = new int[10];
        Integer[][] pointer = new Integer[10][3];
        Entry[][] slot = new Entry[10][6];
        int[] value = new int[24];
        Set<Integer> markedBlocks = new TreeSet<>();
        Set<Integer> markedInodes = new TreeSet<>();

        Disk() {
            kind[0] = 2;
        }

        Disk copy() {
            Disk d = new Disk();
            d.kind = kind.clone();
            d.links = links.clone();
            d.parent = parent.clone();
            for (int i = 0; i < 10; i++) {
                d.pointer[i] = pointer[i].clone();
                d.slot[i] = slot[i].clone();
            }
            d.value = value.clone();
            d.markedBlocks = new TreeSet<>(markedBlocks);
            d.markedInodes = new TreeSet<>(markedInodes);
            return d;
        }

        boolean isDirectory(int i) {
            return kind[i] == 2 || kind[i] == 5;
        }

        int holds(int i) {
            return switch (kind[i]) {
                case 1 -> 3;
                case 2, 5 -> 1;
                case 4 -> 2;
                default -> 0;
            };
        }

        int lists(int i) {
            return switch (kind[i]) {
                case 2 -> 4;
                case 5 -> 6;
                default -> 0;
            };
        }

        int pointersTo(int block) {
            int n = 0;
            for (Integer[] some : pointer) {
                for (Integer to : some) {
                    if (to != null && to == block) {
                        n++;
                    }
                }
            }
            return n;
        }

        int entriesTo(int inode) {
            int n = 0;
            for (Entry[] some : slot) {
                for (Entry e : some) {
                    if (e != null && e.to == inode) {
                        n++;
                    }
                }
            }
            return n;
        }

        void wipe(int i) {
            kind[i] = 0;
            links[i] = 0;
            parent[i] = 0;
            pointer[i] = new Integer[3];
            slot[i] = new Entry[6];
        }

        Set<Integer> below(int from) {
            Set<Integer> found = new LinkedHashSet<>();
            List<Integer> open = new ArrayList<>();
            open.add(from);
            while (!open.isEmpty()) {
                for (Entry e : slot[open.remove(0)]) {
                    if (e != null && found.add(e.to)) {
                        open.add(e.to);
                    }
                }
            }
            found.remove(from);
            return found;
        }

        int depth(int inode) {
            if (kind[inode] == 0) {
                return -9;
            }
            Set<Integer> layer = new TreeSet<>(Set.of(0));
            for (int d = 0; d < 12; d++) {
                if (layer.contains(inode)) {
                    return d;
                }
                Set<Integer> next = new TreeSet<>();
                for (int i : layer) {
                    for (Entry e : slot[i]) {
                        if (e != null) {
                            next.add(e.to);
                        }
                    }
                }
                layer = next;
            }
            return -9;
        }

        int blocksBelow(int inode) {
            Set<Integer> inodes = isDirectory(inode) ? below(inode) : new TreeSet<>();
            inodes.add(inode);
            Set<Integer> blocks = new TreeSet<>();
            for (int i : inodes) {
                for (Integer to : pointer[i]) {
                    if (to != null && to < 24) {
                        blocks.add(to);
                    }
                }
            }
            return blocks.size();
        }

        int used() {
            int n = 0;
            for (int k : kind) {
                n += k == 0 ? 0 : 1;
            }
            return n;
        }

        int entries() {
            int n = 0;
            for (int i = 0; i < 10; i++) {
                n += entriesTo(i);
            }
            return n;
        }

        List<Question> check(Set<Integer> refused) {
            List<Question> asked = new ArrayList<>();
            passOne(refused, asked);
            passTwo(asked);
            passThree(refused, asked);
            passFour(refused, asked);
            passFive(refused, asked);
            return asked;
        }

        private void passOne(Set<Integer> refused, List<Question> asked) {
            if (!isDirectory(0)) {
                asked.add(new Question(1, 0, 0));
                wipe(0);
                kind[0] = 2;
            }
            for (int i = 0; i < 10; i++) {
                for (int p = 0; p < 3; p++) {
                    Integer to = pointer[i][p];
                    if (to == null) {
                        continue;
                    }
                    if (p >= holds(i)) {
                        asked.add(new Question(2, i, p));
                        pointer[i][p] = null;
                    } else if (to >= 24) {
                        asked.add(new Question(3, i, p));
                        pointer[i][p] = null;
                    } else if (hasEarlierPointer(i, p, to) && !refused.contains(4)) {
                        asked.add(new Question(4, i, p));
                        Integer free = null;
                        for (int b = 23; b >= 0; b--) {
                            if (pointersTo(b) == 0) {
                                free = b;
                            }
                        }
                        if (kind[i] != 4 && free != null) {
                            value[free] = value[to];
                            pointer[i][p] = free;
                        } else {
                            pointer[i][p] = null;
                        }
                    }
                }
            }
        }

        private boolean hasEarlierPointer(int inode, int p, int to) {
            for (int i = 0; i <= inode; i++) {
                for (int q = 0; q < (i < inode ? 3 : p); q++) {
                    if (pointer[i][q] != null && pointer[i][q] == to) {
                        return true;
                    }
                }
            }
            return false;
        }

        private void passTwo(List<Question> asked) {
            for (int i = 0; i < 10; i++) {
                for (int s = 0; s < 6; s++) {
                    Entry e = slot[i][s];
                    if (e == null) {
                        continue;
                    }
                    boolean sameName = false;
                    boolean entered = false;
                    for (int j = 0; j <= i; j++) {
                        for (int t = 0; t < (j < i ? 6 : s); t++) {
                            Entry f = slot[j][t];
                            sameName |= f != null && j == i && f.name == e.name;
                            entered |= f != null && f.to == e.to;
                        }
                    }
                    int why = s >= lists(i) ? 5
                        : kind[e.to] == 0 || e.to == 0 ? 6
                        : sameName ? 7
                        : isDirectory(e.to) && entered ? 8 : 0;
                    if (why != 0) {
                        asked.add(new Question(why, i, s));
                        slot[i][s] = null;
                    }
                }
            }
        }

        private void passThree(Set<Integer> refused, List<Question> asked) {
            while (true) {
                Set<Integer> reached = below(0);
                reached.add(0);
                List<Integer> apart = new ArrayList<>();
                for (int i = 0; i < 10; i++) {
                    if (isDirectory(i) && !reached.contains(i)) {
                        apart.add(i);
                    }
                }
                if (apart.isEmpty()) {
                    break;
                }
                Integer taken = null;
                for (int i : apart) {
                    if (taken == null && entriesTo(i) == 0) {
                        taken = i;
                    }
                }
                if (taken == null) {
                    taken = apart.get(0);
                    for (int i = 0; i < 10; i++) {
                        for (int s = 0; s < 6; s++) {
                            if (slot[i][s] != null && slot[i][s].to == taken) {
                                slot[i][s] = null;
                                asked.add(new Question(9, taken, i));
                            }
                        }
                    }
                }
                int at = attach(taken);
                asked.add(at < 0 ? new Question(11, taken, 0) : new Question(10, taken, at));
            }
            for (int i = 0; i < 10; i++) {
                if (!isDirectory(i)) {
                    continue;
                }
                int due = 0;
                for (int j = 0; j < 10 && i > 0; j++) {
                    for (Entry e : slot[j]) {
                        if (e != null && e.to == i) {
                            due = j;
                        }
                    }
                }
                if (parent[i] != due && !refused.contains(12)) {
                    asked.add(new Question(12, i, parent[i]));
                    parent[i] = due;
                }
            }
        }

        private int attach(int inode) {
            for (int s = 0; s < lists(0); s++) {
                if (slot[0][s] == null) {
                    Set<Integer> names = new TreeSet<>();
                    for (Entry e : slot[0]) {
                        if (e != null) {
                            names.add(e.name);
                        }
                    }
                    int name = 0;
                    while (names.contains(name)) {
                        name++;
                    }
                    slot[0][s] = new Entry(name, inode);
                    return s;
                }
            }
            wipe(inode);
            return -1;
        }

        private void passFour(Set<Integer> refused, List<Question> asked) {
            for (int i = 0; i < 10; i++) {
                if (!isDirectory(i) && kind[i] != 0 && entriesTo(i) == 0) {
                    int at = attach(i);
                    asked.add(new Question(13, i, at < 0 ? 6 : at));
                }
                int due = Math.min(9, entriesTo(i));
                if (links[i] != due && !refused.contains(14)) {
                    asked.add(new Question(14, i, links[i]));
                    links[i] = due;
                }
            }
        }

        private void passFive(Set<Integer> refused, List<Question> asked) {
            for (int b = 0; b < 24; b++) {
                if (markedBlocks.contains(b) != pointersTo(b) > 0 && !refused.contains(15)) {
                    asked.add(new Question(15, b, 0));
                    toggle(markedBlocks, b);
                }
            }
            for (int i = 0; i < 10; i++) {
                if (markedInodes.contains(i) != (kind[i] != 0) && !refused.contains(16)) {
                    asked.add(new Question(16, i, 0));
                    toggle(markedInodes, i);
                }
            }
        }
    }

    private static int toggle(Set<Integer> set, int i) {
        if (set.remove(i)) {
            return 0;
        }
        set.add(i);
        return 1;
    }

    private static int bits(Set<Integer> set) {
        int bits = 0;
        for (int i : set) {
            bits |= 1 << i;
        }
        return bits;
    }

    private static boolean in(int n, int low, int high) {
        return low <= n && n <= high;
    }

    private int no(int number) {
        refusals[-number]++;
        return number;
    }

    private long noLong(int number) {
        refusals[-number]++;
        return 4000000000000000000L - number;
    }

    private List<Question> asked() {
        return disk.copy().check(refused);
    }

    private Disk later() {
        Disk d = disk.copy();
        d.check(refused);
        return d;
    }

    public int letter(int c) {
        if (c < 0) {
            return no(-4);
        }
        if (c > 255 || text.length() == 96) {
            return no(-6);
        }
        text.append((char) c);
        return text.length();
    }

    public int volume() {
        String all = text.toString();
        text.setLength(0);
        for (int end = 0; end <= all.length(); end++) {
            Matcher m = TEXT.matcher(all.substring(0, end));
            if (!m.matches() && !m.hitEnd()) {
                return -1000 - (end - 1);
            }
        }
        if (!TEXT.matcher(all).matches()) {
            return -1000 - all.length();
        }
        List<String> statements = new ArrayList<>();
        Matcher m = STATEMENT.matcher(all);
        while (m.find()) {
            String s = m.group();
            char first = s.charAt(0);
            boolean wrong = first == 'p' && s.charAt(2) > '2'
                || (first == 'e' || first == 'x') && s.charAt(2) > '5'
                || (first == 'b' || first == 'm') && Integer.parseInt(s.substring(1, 3)) > 23;
            if (wrong) {
                return -2000 - m.start();
            }
            statements.add(s);
        }
        for (String s : statements) {
            carryOut(s);
        }
        return statements.size();
    }

    private void carryOut(String s) {
        int one = s.length() > 2 ? s.charAt(1) - '0' : 0;
        int two = s.length() > 3 ? s.charAt(2) - '0' : 0;
        switch (s.charAt(0)) {
            case 'i' -> {
                disk.kind[one] = KIND_LETTERS.indexOf(s.charAt(2));
                disk.links[one] = s.charAt(3) - '0';
                disk.parent[one] = s.charAt(4) - '0';
            }
            case 'p' -> {
                int to = Integer.parseInt(s.substring(3, 5));
                disk.pointer[one][two] = to == 99 ? null : Integer.valueOf(to);
            }
            case 'e' -> disk.slot[one][two] = new Entry(s.charAt(3) - 'a', s.charAt(4) - '0');
            case 'x' -> disk.slot[one][two] = null;
            case 'b' -> disk.value[Integer.parseInt(s.substring(1, 3))] = Integer.parseInt(s.substring(3, 5));
            case 'm' -> toggle(disk.markedBlocks, Integer.parseInt(s.substring(1, 3)));
            case 'u' -> toggle(disk.markedInodes, one);
            default -> disk.check(refused);
        }
    }

    public int inode(int inode, int what) {
        if (!in(inode, 0, 9)) {
            return no(-1);
        }
        switch (what) {
            case 0: return disk.kind[inode];
            case 1: return disk.links[inode];
            case 2: return disk.parent[inode];
            case 3: return disk.markedInodes.contains(inode) ? 1 : 0;
            case 4: return disk.holds(inode);
            case 5: return disk.lists(inode);
            case 6:
                int n = 0;
                for (Entry e : disk.slot[inode]) {
                    n += e == null ? 0 : 1;
                }
                return n;
            default: return no(-2);
        }
    }

    private static int pointerOf(Disk d, int inode, int pointer) {
        Integer to = d.pointer[inode][pointer];
        return to == null ? -9 : to;
    }

    private static int slotOf(Disk d, int inode, int slot) {
        Entry e = d.slot[inode][slot];
        return e == null ? -9 : e.told();
    }

    public int pointer(int inode, int pointer) {
        return in(inode, 0, 9) && in(pointer, 0, 2) ? pointerOf(disk, inode, pointer) : no(-1);
    }

    public int slot(int inode, int slot) {
        return in(inode, 0, 9) && in(slot, 0, 5) ? slotOf(disk, inode, slot) : no(-1);
    }

    public int block(int block, int what) {
        if (!in(block, 0, 23)) {
            return no(-1);
        }
        switch (what) {
            case 0: return disk.value[block];
            case 1: return disk.markedBlocks.contains(block) ? 1 : 0;
            case 2: return disk.pointersTo(block);
            default: return no(-2);
        }
    }

    public int kind(int inode, int kind) {
        if (!in(inode, 0, 9)) {
            return no(-1);
        }
        if (!in(kind, 0, 5)) {
            return no(-2);
        }
        int had = disk.kind[inode];
        disk.kind[inode] = kind;
        return had;
    }

    public int points(int inode, int pointer, int to) {
        if (!in(inode, 0, 9) || !in(pointer, 0, 2)) {
            return no(-1);
        }
        if (to < 0) {
            return no(-4);
        }
        if (to > 99) {
            return no(-6);
        }
        disk.pointer[inode][pointer] = to == 99 ? null : Integer.valueOf(to);
        return 1;
    }

    public int enters(int inode, int slot, int name, int to) {
        if (!in(inode, 0, 9) || !in(slot, 0, 5) || !in(to, 0, 9)) {
            return no(-1);
        }
        if (!in(name, 0, 25)) {
            return no(-2);
        }
        disk.slot[inode][slot] = new Entry(name, to);
        return 1;
    }

    public int empties(int inode, int slot) {
        if (!in(inode, 0, 9) || !in(slot, 0, 5)) {
            return no(-1);
        }
        int had = disk.slot[inode][slot] == null ? 0 : 1;
        disk.slot[inode][slot] = null;
        return had;
    }

    public int links(int inode, int links, int parent) {
        if (!in(inode, 0, 9) || !in(parent, 0, 9)) {
            return no(-1);
        }
        if (links < 0) {
            return no(-4);
        }
        if (links > 9) {
            return no(-6);
        }
        int had = 10 * disk.links[inode] + disk.parent[inode];
        disk.links[inode] = links;
        disk.parent[inode] = parent;
        return had;
    }

    public int marks(int what, int which) {
        if (!in(what, 0, 1)) {
            return no(-2);
        }
        if (!in(which, 0, what == 0 ? 23 : 9)) {
            return no(-1);
        }
        return toggle(what == 0 ? disk.markedBlocks : disk.markedInodes, which);
    }

    public int writes(int block, int v) {
        if (!in(block, 0, 23)) {
            return no(-1);
        }
        if (v < 0) {
            return no(-4);
        }
        if (v > 99) {
            return no(-6);
        }
        int had = disk.value[block];
        disk.value[block] = v;
        return had;
    }

    public int refuses(int reason) {
        return Set.of(4, 12, 14, 15, 16).contains(reason) ? toggle(refused, reason) : no(-2);
    }

    public int check() {
        return disk.check(refused).size();
    }

    public int questions(int reason) {
        if (!in(reason, 0, 16)) {
            return no(-2);
        }
        int n = 0;
        for (Question q : asked()) {
            n += reason == 0 || q.why == reason ? 1 : 0;
        }
        return n;
    }

    public int question(int i, int what) {
        if (!in(what, 0, 2)) {
            return no(-2);
        }
        List<Question> all = asked();
        if (!in(i, 0, all.size() - 1)) {
            return no(-1);
        }
        Question q = all.get(i);
        return what == 0 ? q.why : what == 1 ? q.who : q.place;
    }

    public int reasons() {
        Set<Integer> whys = new TreeSet<>();
        for (Question q : asked()) {
            whys.add(q.why);
        }
        return bits(whys);
    }

    public int sound() {
        return asked().isEmpty() ? 1 : 0;
    }

    public int then(int inode, int what) {
        if (!in(inode, 0, 9)) {
            return no(-1);
        }
        Disk d = later();
        switch (what) {
            case 0: return d.kind[inode];
            case 1: return d.links[inode];
            case 2: return d.parent[inode];
            case 3: return d.depth(inode);
            case 4: return d.isDirectory(inode) ? d.below(inode).size() : -9;
            case 5: return d.blocksBelow(inode);
            default: return no(-2);
        }
    }

    public int slotThen(int inode, int slot) {
        return in(inode, 0, 9) && in(slot, 0, 5) ? slotOf(later(), inode, slot) : no(-1);
    }

    public int pointerThen(int inode, int pointer) {
        return in(inode, 0, 9) && in(pointer, 0, 2) ? pointerOf(later(), inode, pointer) : no(-1);
    }

    public int largest(int i) {
        if (!in(i, 0, 9)) {
            return no(-1);
        }
        Disk d = later();
        List<Integer> order = new ArrayList<>();
        for (int n = 0; n < 10; n++) {
            if (d.kind[n] != 0) {
                order.add(n);
            }
        }
        order.sort(Comparator.comparing((Integer n) -> -d.blocksBelow(n)).thenComparing(n -> n));
        return i < order.size() ? order.get(i) : -9;
    }

    public int second() {
        return later().check(refused).size();
    }

    public int loses(int what) {
        if (!in(what, 0, 2)) {
            return no(-2);
        }
        Disk d = later();
        int n = 0;
        if (what == 0) {
            for (int i = 0; i < 10; i++) {
                n += disk.kind[i] != 0 && d.kind[i] == 0 ? 1 : 0;
            }
        } else if (what == 1) {
            for (int b = 0; b < 24; b++) {
                n += disk.pointersTo(b) > 0 && d.pointersTo(b) == 0 ? 1 : 0;
            }
        } else {
            n = Math.max(0, disk.entries() - d.entries());
        }
        return n;
    }

    public int mend(int what) {
        if (!in(what, 0, 1)) {
            return no(-2);
        }
        int asIs = asked().size();
        int best = -9;
        int fewest = -9;
        for (int i = 9; i >= 1; i--) {
            Disk d = disk.copy();
            d.wipe(i);
            int n = d.check(refused).size();
            if (n < asIs && (fewest < 0 || n <= fewest)) {
                best = i;
                fewest = n;
            }
        }
        return what == 0 ? best : fewest;
    }

    public int worst() {
        int[] n = new int[17];
        for (Question q : asked()) {
            n[q.why]++;
        }
        int worst = 0;
        for (int r = 16; r >= 1; r--) {
            worst = n[r] > 0 && n[r] >= n[worst] ? r : worst;
        }
        return worst == 0 ? -9 : worst;
    }

    public int shared(int what) {
        if (!in(what, 0, 1)) {
            return no(-2);
        }
        Set<Integer> many = new TreeSet<>();
        int free = -9;
        for (int b = 23; b >= 0; b--) {
            int n = disk.pointersTo(b);
            if (n >= 2) {
                many.add(b);
            }
            free = n == 0 ? b : free;
        }
        return what == 0 ? bits(many) : free;
    }

    public long damage(int v, int t, int part) {
        if (v < 0 || t < 2) {
            return noLong(-4);
        }
        if (v > 10 || t > 20) {
            return noLong(-6);
        }
        if (!in(part, 0, 1)) {
            return noLong(-2);
        }
        BigInteger above = BigInteger.valueOf(waysFrom(disk, 1, v, t));
        return partOf(above, BigInteger.valueOf(t).pow(6), part);
    }

    /** Of t to the inodes left ways, in how many v or more inodes stay. */
    private long waysFrom(Disk d, int inode, int v, int t) {
        if (inode == 7) {
            Disk end = d.copy();
            end.check(refused);
            return end.used() >= v ? 1 : 0;
        }
        Disk wiped = d.copy();
        wiped.wipe(inode);
        return waysFrom(wiped, inode + 1, v, t) + (t - 1) * waysFrom(d, inode + 1, v, t);
    }

    private static long partOf(BigInteger above, BigInteger below, int part) {
        if (above.signum() == 0 || below.signum() == 0) {
            return part;
        }
        return (part == 0 ? above : below).divide(above.gcd(below)).longValueExact();
    }

    public long mean(int part) {
        if (!in(part, 0, 1)) {
            return noLong(-2);
        }
        int n = 0;
        for (int b = 0; b < 24; b++) {
            n += disk.pointersTo(b);
        }
        return partOf(BigInteger.valueOf(n), BigInteger.valueOf(disk.used()), part);
    }

    public int whatIs(int inode, int what) {
        if (!in(inode, 0, 9)) {
            return no(-1);
        }
        if (!in(what, 0, 1)) {
            return no(-2);
        }
        Set<Integer> fit = new TreeSet<>();
        for (int n = 0; n <= (what == 0 ? 5 : 9); n++) {
            Disk d = disk.copy();
            (what == 0 ? d.kind : d.links)[inode] = n;
            List<Integer> whys = new ArrayList<>();
            for (Question q : d.check(refused)) {
                whys.add(q.why);
            }
            if (row.size() <= whys.size() && whys.subList(0, row.size()).equals(row)) {
                fit.add(n);
            }
        }
        return bits(fit);
    }

    public int row(int v) {
        if (v < 0) {
            return no(-4);
        }
        if (v > 99 || row.size() == 32) {
            return no(-6);
        }
        row.add(v);
        return row.size();
    }

    public int judge() {
        Disk d = later();
        int answer = -9;
        for (int i = row.size() - 1; i >= 0; i--) {
            answer = i > 9 || row.get(i) != d.links[i] ? i : answer;
        }
        row.clear();
        return answer;
    }

    public int clear() {
        int n = row.size();
        row.clear();
        return n;
    }

    public int lots(int n, int z, int what) {
        if (n < 1) {
            return no(-4);
        }
        if (n > 20) {
            return no(-6);
        }
        if (!in(what, 0, 1)) {
            return no(-2);
        }
        int[] seed = {z};
        int sum = 0;
        for (int i = 0; i < n; i++) {
            Disk d = disk.copy();
            for (int turn = 0; turn < 6; turn++) {
                int lot = draw(seed, 3);
                if (lot == 0) {
                    int pointer = draw(seed, 3);
                    int inode = draw(seed, 10);
                    d.pointer[inode][pointer] = draw(seed, 26);
                } else if (lot == 1) {
                    int slot = draw(seed, 6);
                    int inode = draw(seed, 10);
                    int name = draw(seed, 26);
                    d.slot[inode][slot] = new Entry(name, draw(seed, 10));
                } else {
                    int inode = draw(seed, 10);
                    d.kind[inode] = draw(seed, 6);
                }
            }
            int questions = d.check(refused).size();
            sum += what == 0 ? questions : d.used();
        }
        return sum;
    }

    private static int draw(int[] seed, int below) {
        long z = (long) seed[0] * 1664525L + 1013904223L;
        seed[0] = (int) z;
        return (int) ((z & 0x7fffffffL) / 256 % below);
    }

    public int image() {
        image = disk.copy();
        imageRefused = new TreeSet<>(refused);
        return disk.used();
    }

    public int on() {
        if (image == null) {
            return no(-3);
        }
        disk = image.copy();
        refused = new TreeSet<>(imageRefused);
        return disk.used();
    }

    public int count(int what) {
        Set<Integer> set = new TreeSet<>();
        switch (what) {
            case 0:
            case 1:
                for (int i = 0; i < 10; i++) {
                    if (what == 0 ? disk.kind[i] != 0 : disk.isDirectory(i)) {
                        set.add(i);
                    }
                }
                return bits(set);
            case 2:
                for (int b = 0; b < 24; b++) {
                    if (disk.pointersTo(b) > 0) {
                        set.add(b);
                    }
                }
                return bits(set);
            case 3: return bits(disk.markedBlocks);
            case 4: return bits(disk.markedInodes);
            case 5: return bits(refused);
            case 6: return row.size();
            case 7: return text.length();
            default: return what >= 11 && what <= 16 ? refusals[what - 10] : -9;
        }
    }
}
