import java.util.Arrays;

/** A volume of inodes and blocks that is checked and mended in five passes; README.md tells how it is used. */
public final class VolumeInFivePasses {
    private static final int BLOCKS = 24;
    private static final int INODES = 10;
    private static final int POINTERS = 3;
    private static final int SLOTS = 6;
    private static final int NAMES = 26;
    private static final int DAMAGED = 6;
    private static final int MOST_NUMBER = 99;
    private static final int MOST_LETTERS = 96;
    private static final int MOST_ROW = 32;
    private static final int MOST_LINKS = 9;
    private static final int REASONS = 16;
    /** Above every reason at every place: 1 + 30 + 60 + 9 + 9 + 10 + 20 + 24 + 10. */
    private static final int MOST_QUESTIONS = 180;
    private static final int NOTHING = -9;
    private static final int WITHOUT_SIGN = 0x7fffffff;

    private static final int NONE = 0;
    private static final int DIR = 2;
    private static final int LOG = 4;
    private static final int HOME = 5;
    private static final int KINDS = 6;
    private static final int[] HOLDS = {0, 3, 1, 0, 2, 1};
    private static final int[] LISTS = {0, 0, 4, 0, 0, 6};
    private static final String KIND_LETTERS = "nfdlgh";
    private static final String STATEMENT_LETTERS = "ipexbmuc";

    private static final int NOBODY = -1;
    private static final int OTHER = -2;
    private static final int STATE = -3;
    private static final int BELOW = -4;
    private static final int ROOM = -6;
    private static final long LONG_REFUSAL = 4000000000000000000L;
    /** Bits of the reasons 4, 12, 14, 15, 16. */
    private static final int REFUSABLE = 1 << 4 | 1 << 12 | 1 << 14 | 1 << 15 | 1 << 16;

    private final Volume now = new Volume();
    private final Volume trial = new Volume();
    private final Volume taken = new Volume();
    private boolean isTaken = false;
    private int takenRefused = 0;
    private final Check mind = new Check();
    private final Check again = new Check();
    private final Letters letters = new Letters();
    private final int[] told = new int[MOST_ROW];
    private int toldSize = 0;
    private final int[] refusals = new int[7];
    private int refused = 0;
    private int seed = 0;

    public VolumeInFivePasses() {
    }

    // ---- letters ----

    public int letter(int c) {
        if (c < 0) {
            return refusal(BELOW);
        }
        if (c > 255 || letters.size >= MOST_LETTERS) {
            return refusal(ROOM);
        }
        return letters.append(c);
    }

    public int volume() {
        int fault = letters.fault();
        int statements = 0;
        int at = 0;
        while (fault == 0 && at < letters.size && statements < MOST_LETTERS) {
            carryOut(at);
            at += letters.lengthAt(at);
            statements++;
        }
        letters.size = 0;
        return fault == 0 ? statements : fault;
    }

    // ---- the volume as it is now ----

    public int inode(int inode, int what) {
        if (isOutside(inode, INODES)) {
            return refusal(NOBODY);
        }
        switch (what) {
            case 0:
                return now.kinds[inode];
            case 1:
                return now.linkCounts[inode];
            case 2:
                return now.parents[inode];
            case 3:
                return now.inodeMap >> inode & 1;
            case 4:
                return HOLDS[now.kinds[inode]];
            case 5:
                return LISTS[now.kinds[inode]];
            case 6:
                return now.entriesIn(inode);
            default:
                return refusal(OTHER);
        }
    }

    public int pointer(int inode, int pointer) {
        if (isOutside(inode, INODES) || isOutside(pointer, POINTERS)) {
            return refusal(NOBODY);
        }
        return now.targets[POINTERS * inode + pointer];
    }

    public int slot(int inode, int slot) {
        if (isOutside(inode, INODES) || isOutside(slot, SLOTS)) {
            return refusal(NOBODY);
        }
        return now.entries[SLOTS * inode + slot];
    }

    public int block(int block, int what) {
        if (isOutside(block, BLOCKS)) {
            return refusal(NOBODY);
        }
        switch (what) {
            case 0:
                return now.bytes[block];
            case 1:
                return now.blockMap >> block & 1;
            case 2:
                return now.pointersTo(block);
            default:
                return refusal(OTHER);
        }
    }

    public int kind(int inode, int kind) {
        if (isOutside(inode, INODES)) {
            return refusal(NOBODY);
        }
        if (isOutside(kind, KINDS)) {
            return refusal(OTHER);
        }
        int had = now.kinds[inode];
        now.kinds[inode] = kind;
        return had;
    }

    public int points(int inode, int pointer, int to) {
        if (isOutside(inode, INODES) || isOutside(pointer, POINTERS)) {
            return refusal(NOBODY);
        }
        if (to < 0) {
            return refusal(BELOW);
        }
        if (to > MOST_NUMBER) {
            return refusal(ROOM);
        }
        now.pointAt(inode, pointer, to);
        return 1;
    }

    public int enters(int inode, int slot, int name, int to) {
        if (isOutside(inode, INODES) || isOutside(slot, SLOTS) || isOutside(to, INODES)) {
            return refusal(NOBODY);
        }
        if (isOutside(name, NAMES)) {
            return refusal(OTHER);
        }
        now.enter(inode, slot, name, to);
        return 1;
    }

    public int empties(int inode, int slot) {
        if (isOutside(inode, INODES) || isOutside(slot, SLOTS)) {
            return refusal(NOBODY);
        }
        int place = SLOTS * inode + slot;
        int had = now.entries[place] == NOTHING ? 0 : 1;
        now.entries[place] = NOTHING;
        return had;
    }

    public int links(int inode, int links, int parent) {
        if (isOutside(inode, INODES) || isOutside(parent, INODES)) {
            return refusal(NOBODY);
        }
        if (links < 0) {
            return refusal(BELOW);
        }
        if (links > MOST_LINKS) {
            return refusal(ROOM);
        }
        int had = 10 * now.linkCounts[inode] + now.parents[inode];
        now.linkCounts[inode] = links;
        now.parents[inode] = parent;
        return had;
    }

    public int marks(int what, int which) {
        if (what != 0 && what != 1) {
            return refusal(OTHER);
        }
        if (isOutside(which, what == 0 ? BLOCKS : INODES)) {
            return refusal(NOBODY);
        }
        if (what == 0) {
            now.blockMap ^= 1 << which;
            return now.blockMap >> which & 1;
        }
        now.inodeMap ^= 1 << which;
        return now.inodeMap >> which & 1;
    }

    public int writes(int block, int v) {
        if (isOutside(block, BLOCKS)) {
            return refusal(NOBODY);
        }
        if (v < 0) {
            return refusal(BELOW);
        }
        if (v > MOST_NUMBER) {
            return refusal(ROOM);
        }
        int had = now.bytes[block];
        now.bytes[block] = v;
        return had;
    }

    public int refuses(int reason) {
        if (isOutside(reason, REASONS + 1) || (REFUSABLE >> reason & 1) == 0) {
            return refusal(OTHER);
        }
        refused ^= 1 << reason;
        return refused >> reason & 1;
    }

    public int check() {
        mind.run(now, refused);
        now.takeFrom(mind.volume);
        return mind.asked;
    }

    // ---- a check in mind ----

    public int questions(int reason) {
        if (isOutside(reason, REASONS + 1)) {
            return refusal(OTHER);
        }
        mind.run(now, refused);
        return reason == 0 ? mind.asked : mind.askedFor(reason);
    }

    public int question(int i, int what) {
        if (isOutside(what, 3)) {
            return refusal(OTHER);
        }
        mind.run(now, refused);
        if (isOutside(i, mind.asked)) {
            return refusal(NOBODY);
        }
        if (what == 0) {
            return mind.whys[i];
        }
        return what == 1 ? mind.whos[i] : mind.places[i];
    }

    public int reasons() {
        mind.run(now, refused);
        int bits = 0;
        for (int i = 0; i < mind.asked; i++) {
            bits |= 1 << mind.whys[i];
        }
        return bits;
    }

    public int sound() {
        mind.run(now, refused);
        return mind.asked == 0 ? 1 : 0;
    }

    public int then(int inode, int what) {
        if (isOutside(inode, INODES)) {
            return refusal(NOBODY);
        }
        if (isOutside(what, 6)) {
            return refusal(OTHER);
        }
        mind.run(now, refused);
        Volume later = mind.volume;
        switch (what) {
            case 0:
                return later.kinds[inode];
            case 1:
                return later.linkCounts[inode];
            case 2:
                return later.parents[inode];
            case 3:
                return later.depthOf(inode);
            case 4:
                return later.inodesBelow(inode);
            default:
                return later.blocksBelow(inode);
        }
    }

    public int slotThen(int inode, int slot) {
        if (isOutside(inode, INODES) || isOutside(slot, SLOTS)) {
            return refusal(NOBODY);
        }
        mind.run(now, refused);
        return mind.volume.entries[SLOTS * inode + slot];
    }

    public int pointerThen(int inode, int pointer) {
        if (isOutside(inode, INODES) || isOutside(pointer, POINTERS)) {
            return refusal(NOBODY);
        }
        mind.run(now, refused);
        return mind.volume.targets[POINTERS * inode + pointer];
    }

    public int largest(int i) {
        if (isOutside(i, INODES)) {
            return refusal(NOBODY);
        }
        mind.run(now, refused);
        return inodeBySize(mind.volume, i);
    }

    public int second() {
        mind.run(now, refused);
        again.run(mind.volume, refused);
        return again.asked;
    }

    public int loses(int what) {
        if (isOutside(what, 3)) {
            return refusal(OTHER);
        }
        mind.run(now, refused);
        Volume later = mind.volume;
        if (what == 0) {
            return Integer.bitCount(now.inodesInUse() & ~later.inodesInUse());
        }
        if (what == 1) {
            return Integer.bitCount(now.blocksPointedAt() & ~later.blocksPointedAt());
        }
        return Math.max(0, now.entriesInAll() - later.entriesInAll());
    }

    public int mend(int what) {
        if (what != 0 && what != 1) {
            return refusal(OTHER);
        }
        mind.run(now, refused);
        int fewest = mind.asked;
        int best = NOTHING;
        for (int inode = 1; inode < INODES; inode++) {
            trial.takeFrom(now);
            trial.wipe(inode);
            mind.run(trial, refused);
            if (mind.asked < fewest) {
                fewest = mind.asked;
                best = inode;
            }
        }
        return what == 0 || best == NOTHING ? best : fewest;
    }

    public int worst() {
        mind.run(now, refused);
        int most = 0;
        int worst = NOTHING;
        for (int reason = 1; reason <= REASONS; reason++) {
            int asked = mind.askedFor(reason);
            if (asked > most) {
                most = asked;
                worst = reason;
            }
        }
        return worst;
    }

    public int shared(int what) {
        if (what != 0 && what != 1) {
            return refusal(OTHER);
        }
        return what == 0 ? now.blocksShared() : now.freeBlock();
    }

    // ---- odds ----

    public long damage(int v, int t, int part) {
        if (v < 0 || t < 2) {
            return LONG_REFUSAL - refusal(BELOW);
        }
        if (v > 10 || t > 20) {
            return LONG_REFUSAL - refusal(ROOM);
        }
        if (part != 0 && part != 1) {
            return LONG_REFUSAL - refusal(OTHER);
        }
        long above = 0;
        for (int wiped = 0; wiped < 1 << DAMAGED; wiped++) {
            if (leftWithout(wiped) >= v) {
                above += power(t - 1, DAMAGED - Integer.bitCount(wiped));
            }
        }
        return partOfFraction(above, power(t, DAMAGED), part);
    }

    public long mean(int part) {
        if (part != 0 && part != 1) {
            return LONG_REFUSAL - refusal(OTHER);
        }
        int pointers = 0;
        for (int block = 0; block < BLOCKS; block++) {
            pointers += now.pointersTo(block);
        }
        return partOfFraction(pointers, Integer.bitCount(now.inodesInUse()), part);
    }

    // ---- the row ----

    public int whatIs(int inode, int what) {
        if (isOutside(inode, INODES)) {
            return refusal(NOBODY);
        }
        if (what != 0 && what != 1) {
            return refusal(OTHER);
        }
        int bits = 0;
        int most = what == 0 ? KINDS - 1 : MOST_LINKS;
        for (int number = 0; number <= most; number++) {
            trial.takeFrom(now);
            if (what == 0) {
                trial.kinds[inode] = number;
            } else {
                trial.linkCounts[inode] = number;
            }
            mind.run(trial, refused);
            bits |= rowIsAsked() ? 1 << number : 0;
        }
        return bits;
    }

    public int row(int v) {
        if (v < 0) {
            return refusal(BELOW);
        }
        if (v > MOST_NUMBER || toldSize >= MOST_ROW) {
            return refusal(ROOM);
        }
        told[toldSize] = v;
        toldSize++;
        return toldSize;
    }

    public int judge() {
        mind.run(now, refused);
        int wrong = NOTHING;
        for (int i = 0; i < toldSize && wrong == NOTHING; i++) {
            if (i >= INODES || told[i] != mind.volume.linkCounts[i]) {
                wrong = i;
            }
        }
        toldSize = 0;
        return wrong;
    }

    public int clear() {
        int had = toldSize;
        toldSize = 0;
        return had;
    }

    // ---- volumes by lot ----

    public int lots(int n, int z, int what) {
        if (n < 1) {
            return refusal(BELOW);
        }
        if (n > 20) {
            return refusal(ROOM);
        }
        if (what != 0 && what != 1) {
            return refusal(OTHER);
        }
        seed = z;
        int sum = 0;
        for (int i = 0; i < n; i++) {
            trial.takeFrom(now);
            for (int turn = 0; turn < 6; turn++) {
                changeByLot();
            }
            mind.run(trial, refused);
            sum += what == 0 ? mind.asked : Integer.bitCount(mind.volume.inodesInUse());
        }
        return sum;
    }

    // ---- the image, and counts ----

    public int image() {
        taken.takeFrom(now);
        takenRefused = refused;
        isTaken = true;
        return Integer.bitCount(now.inodesInUse());
    }

    public int on() {
        if (!isTaken) {
            return refusal(STATE);
        }
        now.takeFrom(taken);
        refused = takenRefused;
        return Integer.bitCount(now.inodesInUse());
    }

    public int count(int what) {
        switch (what) {
            case 0:
                return now.inodesInUse();
            case 1:
                return now.directories();
            case 2:
                return now.blocksPointedAt();
            case 3:
                return now.blockMap;
            case 4:
                return now.inodeMap;
            case 5:
                return refused;
            case 6:
                return toldSize;
            case 7:
                return letters.size;
            default:
                return what >= 11 && what <= 16 ? refusals[what - 10] : NOTHING;
        }
    }

    // ---- helpers ----

    private static boolean isOutside(int number, int size) {
        return number < 0 || number >= size;
    }

    /** Counts a refusal (-1 .. -6), and answers it. */
    private int refusal(int number) {
        int which = -number;
        if (which >= 1 && which <= 6) {
            refusals[which]++;
        }
        return number;
    }

    /** Carries out the statement that begins here, of a text without a fault. */
    private void carryOut(int at) {
        int first = letters.digitAt(at + 1);
        int next = letters.digitAt(at + 2);
        int pair = letters.pairAt(at + 1);
        switch (letters.signAt(at)) {
            case 'i':
                now.kinds[first] = letters.kindAt(at + 2);
                now.linkCounts[first] = letters.digitAt(at + 3);
                now.parents[first] = letters.digitAt(at + 4);
                break;
            case 'p':
                now.pointAt(first, next, letters.pairAt(at + 3));
                break;
            case 'e':
                now.enter(first, next, letters.nameAt(at + 3), letters.digitAt(at + 4));
                break;
            case 'x':
                now.entries[SLOTS * first + next] = NOTHING;
                break;
            case 'b':
                now.bytes[pair] = letters.pairAt(at + 3);
                break;
            case 'm':
                now.blockMap ^= 1 << pair;
                break;
            case 'u':
                now.inodeMap ^= 1 << first;
                break;
            default:
                mind.run(now, refused);
                now.takeFrom(mind.volume);
                break;
        }
    }

    /** The i-th inode in use by its blocks below, most first, then by numbers. */
    private static int inodeBySize(Volume later, int i) {
        int left = later.inodesInUse();
        int largest = NOTHING;
        for (int turn = 0; turn <= i; turn++) {
            largest = NOTHING;
            int most = -1;
            for (int inode = 0; inode < INODES; inode++) {
                int size = (left >> inode & 1) != 0 ? later.blocksBelow(inode) : -1;
                if (size > most) {
                    most = size;
                    largest = inode;
                }
            }
            if (largest == NOTHING) {
                return NOTHING;
            }
            left &= ~(1 << largest);
        }
        return largest;
    }

    /** How many inodes are in use behind a check, if those of the bits (bit 0: inode 1) are wiped before. */
    private int leftWithout(int wiped) {
        trial.takeFrom(now);
        for (int bit = 0; bit < DAMAGED; bit++) {
            if ((wiped >> bit & 1) != 0) {
                trial.wipe(bit + 1);
            }
        }
        mind.run(trial, refused);
        return Integer.bitCount(mind.volume.inodesInUse());
    }

    private static long power(int base, int exponent) {
        long product = 1;
        for (int i = 0; i < exponent; i++) {
            product *= base;
        }
        return product;
    }

    /** The part above (0) or below (1) the line, in least terms; 0 by 1 for nothing, or by nothing. */
    private static long partOfFraction(long above, long below, int part) {
        if (above < 1 || below < 1) {
            return part == 0 ? 0 : 1;
        }
        long divisor = above;
        long rest = below;
        for (int step = 0; step < 200 && rest > 0; step++) {
            long next = divisor % rest;
            divisor = rest;
            rest = next;
        }
        return (part == 0 ? above : below) / Math.max(1, divisor);
    }

    /** Whether the check just run asks for the reasons of the row, in their order, from its first on. */
    private boolean rowIsAsked() {
        if (toldSize > mind.asked) {
            return false;
        }
        for (int i = 0; i < toldSize; i++) {
            if (told[i] != mind.whys[i]) {
                return false;
            }
        }
        return true;
    }

    private void changeByLot() {
        int lot = draw(3);
        if (lot == 0) {
            int pointer = draw(POINTERS);
            int inode = draw(INODES);
            trial.pointAt(inode, pointer, draw(26));
        } else if (lot == 1) {
            int slot = draw(SLOTS);
            int inode = draw(INODES);
            int name = draw(NAMES);
            trial.enter(inode, slot, name, draw(INODES));
        } else {
            int inode = draw(INODES);
            trial.kinds[inode] = draw(KINDS);
        }
    }

    private int draw(int below) {
        seed = seed * 1664525 + 1013904223;
        return below < 1 ? 0 : (seed & WITHOUT_SIGN) / 256 % below;
    }

    /** The letters that have come, and what they say. */
    private static final class Letters {
        final int[] signs = new int[MOST_LETTERS];
        int size = 0;

        int append(int sign) {
            if (size < MOST_LETTERS) {
                signs[size] = sign;
                size++;
            }
            return size;
        }

        int signAt(int at) {
            return at >= 0 && at < size ? signs[at] : 0;
        }

        int digitAt(int at) {
            return signAt(at) - '0';
        }

        int pairAt(int at) {
            return 10 * digitAt(at) + digitAt(at + 1);
        }

        int kindAt(int at) {
            return KIND_LETTERS.indexOf((char) signAt(at));
        }

        int nameAt(int at) {
            return signAt(at) - 'a';
        }

        /** How long the statement is that begins here, with its ";". */
        int lengthAt(int at) {
            return shapeOf(signAt(at)).length() + 2;
        }

        /** 0, if there is none. */
        int fault() {
            int place = placeOfWrongLetter();
            if (place != NOTHING) {
                return -1000 - place;
            }
            place = placeOfWrongStatement();
            return place != NOTHING ? -2000 - place : 0;
        }

        private int placeOfWrongLetter() {
            if (size == 0) {
                return 0;
            }
            int wrong = NOTHING;
            int at = 0;
            for (int i = 0; i < MOST_LETTERS && at < size && wrong == NOTHING; i++) {
                wrong = wrongLetterOf(at);
                at += lengthAt(at);
            }
            return wrong;
        }

        private int wrongLetterOf(int start) {
            if (STATEMENT_LETTERS.indexOf((char) signAt(start)) < 0) {
                return start;
            }
            String shape = shapeOf(signAt(start));
            for (int i = 0; i <= shape.length(); i++) {
                int at = start + 1 + i;
                char asked = i < shape.length() ? shape.charAt(i) : ';';
                if (at >= size || !fits(asked, signAt(at))) {
                    return at;
                }
            }
            return NOTHING;
        }

        private int placeOfWrongStatement() {
            int at = 0;
            for (int i = 0; i < MOST_LETTERS && at < size; i++) {
                if (!stands(at)) {
                    return at;
                }
                at += lengthAt(at);
            }
            return NOTHING;
        }

        private boolean stands(int at) {
            switch (signAt(at)) {
                case 'p':
                    return digitAt(at + 2) < POINTERS;
                case 'e':
                case 'x':
                    return digitAt(at + 2) < SLOTS;
                case 'b':
                case 'm':
                    return pairAt(at + 1) < BLOCKS;
                default:
                    return true;
            }
        }

        /** What follows the first letter: 9 for a digit, k for the letter of a kind, a for a name. */
        private static String shapeOf(int sign) {
            switch (sign) {
                case 'i':
                    return "9k99";
                case 'p':
                case 'b':
                    return "9999";
                case 'e':
                    return "99a9";
                case 'x':
                case 'm':
                    return "99";
                case 'u':
                    return "9";
                default:
                    return "";
            }
        }

        private static boolean fits(char asked, int sign) {
            switch (asked) {
                case '9':
                    return sign >= '0' && sign <= '9';
                case 'k':
                    return KIND_LETTERS.indexOf((char) sign) >= 0;
                case 'a':
                    return sign >= 'a' && sign <= 'z';
                default:
                    return sign == asked;
            }
        }
    }

    /** Inodes, pointers, entries, blocks and maps. */
    private static final class Volume {
        final int[] kinds = new int[INODES];
        final int[] linkCounts = new int[INODES];
        final int[] parents = new int[INODES];
        final int[] targets = new int[INODES * POINTERS];
        /** 26 times the number and the name. */
        final int[] entries = new int[INODES * SLOTS];
        final int[] bytes = new int[BLOCKS];
        int blockMap = 0;
        int inodeMap = 0;

        Volume() {
            kinds[0] = DIR;
            Arrays.fill(targets, NOTHING);
            Arrays.fill(entries, NOTHING);
        }

        void takeFrom(Volume other) {
            System.arraycopy(other.kinds, 0, kinds, 0, INODES);
            System.arraycopy(other.linkCounts, 0, linkCounts, 0, INODES);
            System.arraycopy(other.parents, 0, parents, 0, INODES);
            System.arraycopy(other.targets, 0, targets, 0, INODES * POINTERS);
            System.arraycopy(other.entries, 0, entries, 0, INODES * SLOTS);
            System.arraycopy(other.bytes, 0, bytes, 0, BLOCKS);
            blockMap = other.blockMap;
            inodeMap = other.inodeMap;
        }

        void wipe(int inode) {
            kinds[inode] = NONE;
            linkCounts[inode] = 0;
            parents[inode] = 0;
            for (int p = 0; p < POINTERS; p++) {
                targets[POINTERS * inode + p] = NOTHING;
            }
            for (int s = 0; s < SLOTS; s++) {
                entries[SLOTS * inode + s] = NOTHING;
            }
        }

        void pointAt(int inode, int pointer, int to) {
            targets[POINTERS * inode + pointer] = to == MOST_NUMBER ? NOTHING : to;
        }

        void enter(int inode, int slot, int name, int to) {
            entries[SLOTS * inode + slot] = NAMES * to + name;
        }

        boolean isDirectory(int inode) {
            return kinds[inode] == DIR || kinds[inode] == HOME;
        }

        int inodesInUse() {
            int bits = 0;
            for (int inode = 0; inode < INODES; inode++) {
                bits |= kinds[inode] != NONE ? 1 << inode : 0;
            }
            return bits;
        }

        int directories() {
            int bits = 0;
            for (int inode = 0; inode < INODES; inode++) {
                bits |= isDirectory(inode) ? 1 << inode : 0;
            }
            return bits;
        }

        int pointersTo(int block) {
            int pointers = 0;
            for (int i = 0; i < targets.length; i++) {
                pointers += targets[i] == block ? 1 : 0;
            }
            return pointers;
        }

        /** The bit of the block that a pointer is to; 0, if it is to none. */
        int blockOf(int inode, int pointer) {
            int to = targets[POINTERS * inode + pointer];
            return isOutside(to, BLOCKS) ? 0 : 1 << to;
        }

        int blocksOf(int inode) {
            int bits = 0;
            for (int p = 0; p < POINTERS; p++) {
                bits |= blockOf(inode, p);
            }
            return bits;
        }

        int blocksPointedAt() {
            int bits = 0;
            for (int i = 0; i < targets.length; i++) {
                int to = targets[i];
                bits |= to >= 0 && to < BLOCKS ? 1 << to : 0;
            }
            return bits;
        }

        int blocksShared() {
            int once = 0;
            int twice = 0;
            for (int inode = 0; inode < INODES; inode++) {
                for (int p = 0; p < POINTERS; p++) {
                    int bit = blockOf(inode, p);
                    twice |= once & bit;
                    once |= bit;
                }
            }
            return twice;
        }

        /** The least block to which no pointer is. */
        int freeBlock() {
            int block = Integer.numberOfTrailingZeros(~blocksPointedAt());
            return block < BLOCKS ? block : NOTHING;
        }

        int entriesIn(int inode) {
            int sum = 0;
            for (int s = 0; s < SLOTS; s++) {
                sum += entries[SLOTS * inode + s] != NOTHING ? 1 : 0;
            }
            return sum;
        }

        int entriesInAll() {
            int sum = 0;
            for (int inode = 0; inode < INODES; inode++) {
                sum += entriesIn(inode);
            }
            return sum;
        }

        /** Where the first entry to an inode is, of all slots of all inodes. */
        int placeOfEntryTo(int inode) {
            for (int place = 0; place < entries.length; place++) {
                if (entries[place] != NOTHING && entries[place] / NAMES == inode) {
                    return place;
                }
            }
            return NOTHING;
        }

        /** How many entries are to each inode, told in a row. */
        void countEntries(int[] sums) {
            Arrays.fill(sums, 0);
            for (int place = 0; place < entries.length; place++) {
                int to = entries[place] == NOTHING ? NOTHING : entries[place] / NAMES;
                if (to >= 0 && to < sums.length) {
                    sums[to]++;
                }
            }
        }

        /** The inodes (bits) to which entries of an inode are. */
        int enteredBy(int inode) {
            int bits = 0;
            for (int s = 0; s < SLOTS; s++) {
                int entry = entries[SLOTS * inode + s];
                bits |= entry != NOTHING ? 1 << entry / NAMES : 0;
            }
            return bits;
        }

        /** The inodes (bits) to which entries of some inodes (bits) are. */
        int enteredByThese(int inodes) {
            int bits = 0;
            for (int inode = 0; inode < INODES; inode++) {
                bits |= (inodes >> inode & 1) != 0 ? enteredBy(inode) : 0;
            }
            return bits;
        }

        /** The inodes (bits) that can be reached by entries from one, and itself. */
        int reachedFrom(int inode) {
            int reached = 1 << inode;
            int fresh = reached;
            for (int step = 0; step < INODES && fresh != 0; step++) {
                fresh = enteredByThese(fresh) & ~reached;
                reached |= fresh;
            }
            return reached;
        }

        int depthOf(int inode) {
            if (kinds[inode] == NONE) {
                return NOTHING;
            }
            int reached = 1;
            for (int depth = 0; depth < INODES; depth++) {
                if ((reached >> inode & 1) != 0) {
                    return depth;
                }
                reached |= enteredByThese(reached);
            }
            return NOTHING;
        }

        int inodesBelow(int inode) {
            return isDirectory(inode) ? Integer.bitCount(reachedFrom(inode)) - 1 : NOTHING;
        }

        int blocksBelow(int inode) {
            int inodes = isDirectory(inode) ? reachedFrom(inode) : 1 << inode;
            int bits = 0;
            for (int i = 0; i < INODES; i++) {
                bits |= (inodes >> i & 1) != 0 ? blocksOf(i) : 0;
            }
            return Integer.bitCount(bits);
        }

        /** The first empty slot that an inode of its kind lists. */
        int emptySlotOf(int inode) {
            int slots = LISTS[kinds[inode]];
            for (int s = 0; s < slots; s++) {
                if (entries[SLOTS * inode + s] == NOTHING) {
                    return s;
                }
            }
            return NOTHING;
        }

        /** The least name that no entry of an inode has: six slots never have all names. */
        int freeNameIn(int inode) {
            int names = 0;
            for (int s = 0; s < SLOTS; s++) {
                int entry = entries[SLOTS * inode + s];
                names |= entry != NOTHING ? 1 << entry % NAMES : 0;
            }
            return Integer.numberOfTrailingZeros(~names);
        }
    }

    /** A check of a copy of a volume: the questions asked, and the volume behind it. */
    private static final class Check {
        final Volume volume = new Volume();
        final int[] whys = new int[MOST_QUESTIONS];
        final int[] whos = new int[MOST_QUESTIONS];
        final int[] places = new int[MOST_QUESTIONS];
        int asked = 0;
        private final int[] entered = new int[INODES];
        private int refusedReasons = 0;

        void run(Volume from, int refusedBits) {
            volume.takeFrom(from);
            refusedReasons = refusedBits;
            asked = 0;
            mendPointers();
            mendEntries();
            mendConnections();
            mendParents();
            mendCounts();
            mendMaps();
        }

        int askedFor(int reason) {
            int sum = 0;
            for (int i = 0; i < asked; i++) {
                sum += whys[i] == reason ? 1 : 0;
            }
            return sum;
        }

        /** Asks, if the reason is not refused: whether it is to be mended. */
        private boolean asks(int reason, int who, int place) {
            if ((refusedReasons >> reason & 1) != 0 || asked >= MOST_QUESTIONS) {
                return false;
            }
            whys[asked] = reason;
            whos[asked] = who;
            places[asked] = place;
            asked++;
            return true;
        }

        private void mendPointers() {
            if (!volume.isDirectory(0) && asks(1, 0, 0)) {
                volume.wipe(0);
                volume.kinds[0] = DIR;
            }
            int earlier = 0;
            for (int inode = 0; inode < INODES; inode++) {
                for (int p = 0; p < POINTERS; p++) {
                    int place = POINTERS * inode + p;
                    int reason = faultOfPointer(inode, p, earlier);
                    if (reason != 0 && asks(reason, inode, p)) {
                        volume.targets[place] = reason == 4 ? cloneFor(inode, volume.targets[place]) : NOTHING;
                    }
                    earlier |= volume.blockOf(inode, p);
                }
            }
        }

        /** The reason for which a pointer cannot stay, by the blocks (bits) of earlier ones; 0, if it can. */
        private int faultOfPointer(int inode, int pointer, int earlier) {
            int to = volume.targets[POINTERS * inode + pointer];
            if (to == NOTHING) {
                return 0;
            }
            if (pointer >= HOLDS[volume.kinds[inode]]) {
                return 2;
            }
            if (to >= BLOCKS) {
                return 3;
            }
            return (earlier >> to & 1) != 0 ? 4 : 0;
        }

        /** The block that a pointer of an inode has instead of one that an earlier pointer has. */
        private int cloneFor(int inode, int block) {
            int free = volume.kinds[inode] == LOG ? NOTHING : volume.freeBlock();
            if (free != NOTHING) {
                volume.bytes[free] = volume.bytes[block];
            }
            return free;
        }

        private void mendEntries() {
            int earlier = 0;
            for (int inode = 0; inode < INODES; inode++) {
                int names = 0;
                for (int s = 0; s < SLOTS; s++) {
                    int entry = volume.entries[SLOTS * inode + s];
                    int reason = entry == NOTHING ? 0 : faultOfEntry(inode, s, names, earlier);
                    if (reason != 0 && asks(reason, inode, s)) {
                        volume.entries[SLOTS * inode + s] = NOTHING;
                    } else if (entry != NOTHING) {
                        names |= 1 << entry % NAMES;
                        earlier |= 1 << entry / NAMES;
                    }
                }
            }
        }

        /** The reason for which an entry cannot stay, by the names and numbers (bits) of earlier ones; 0, if it can. */
        private int faultOfEntry(int inode, int slot, int names, int earlier) {
            int entry = volume.entries[SLOTS * inode + slot];
            int to = entry / NAMES;
            if (slot >= LISTS[volume.kinds[inode]]) {
                return 5;
            }
            if (to == 0 || volume.kinds[to] == NONE) {
                return 6;
            }
            if ((names >> entry % NAMES & 1) != 0) {
                return 7;
            }
            return volume.isDirectory(to) && (earlier >> to & 1) != 0 ? 8 : 0;
        }

        /** Every round connects one directory, or loses it. */
        private void mendConnections() {
            for (int round = 0; round < INODES; round++) {
                int apart = volume.directories() & ~volume.reachedFrom(0);
                if (apart == 0) {
                    return;
                }
                int alone = apart & ~volume.enteredByThese((1 << INODES) - 1);
                int inode = Integer.numberOfTrailingZeros(alone != 0 ? alone : apart);
                if (alone == 0) {
                    cutOff(inode);
                }
                int slot = attach(inode);
                asks(slot == NOTHING ? 11 : 10, inode, Math.max(0, slot));
            }
        }

        private void cutOff(int inode) {
            int place = volume.placeOfEntryTo(inode);
            if (place != NOTHING && asks(9, inode, place / SLOTS)) {
                volume.entries[place] = NOTHING;
            }
        }

        /** Enters an inode in inode 0, or loses it: the slot, or NOTHING. */
        private int attach(int inode) {
            int slot = volume.emptySlotOf(0);
            if (slot == NOTHING) {
                volume.wipe(inode);
            } else {
                volume.enter(0, slot, volume.freeNameIn(0), inode);
            }
            return slot;
        }

        private void mendParents() {
            for (int inode = 0; inode < INODES; inode++) {
                if (volume.isDirectory(inode)) {
                    int place = inode == 0 ? 0 : volume.placeOfEntryTo(inode);
                    int had = volume.parents[inode];
                    int due = place == NOTHING ? had : place / SLOTS;
                    if (had != due && asks(12, inode, had)) {
                        volume.parents[inode] = due;
                    }
                }
            }
        }

        private void mendCounts() {
            volume.countEntries(entered);
            for (int inode = 0; inode < INODES; inode++) {
                boolean isUsed = volume.kinds[inode] != NONE && !volume.isDirectory(inode);
                if (isUsed && entered[inode] == 0) {
                    int slot = attach(inode);
                    asks(13, inode, slot == NOTHING ? SLOTS : slot);
                    entered[inode] = slot == NOTHING ? 0 : 1;
                }
                int had = volume.linkCounts[inode];
                int due = Math.min(MOST_LINKS, entered[inode]);
                if (had != due && asks(14, inode, had)) {
                    volume.linkCounts[inode] = due;
                }
            }
        }

        private void mendMaps() {
            int wrongBlocks = volume.blockMap ^ volume.blocksPointedAt();
            for (int block = 0; block < BLOCKS; block++) {
                if ((wrongBlocks >> block & 1) != 0 && asks(15, block, 0)) {
                    volume.blockMap ^= 1 << block;
                }
            }
            int wrongInodes = volume.inodeMap ^ volume.inodesInUse();
            for (int inode = 0; inode < INODES; inode++) {
                if ((wrongInodes >> inode & 1) != 0 && asks(16, inode, 0)) {
                    volume.inodeMap ^= 1 << inode;
                }
            }
        }
    }
}
