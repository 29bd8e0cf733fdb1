/** A library of handles, lent to members who go from room to room by them; see README.md. */
public final class HandleLoans {
    private static final int BEYOND = -1000000001;
    private static final int FULL = -1000000002;
    private static final int KIND = -1000000003;
    private static final int NONE = -1000000004;
    private static final int STATE = -1000000005;
    private static final int MISSING = -1000000006;
    private static final int SIZE = -1000000007;
    private static final int FINDINGS = 7;

    private static final int HANDLE = 0;
    private static final int BRASS = 1;
    private static final int BONE = 2;
    private static final int ROPE = 3;
    private static final int KNOB = 4;
    private static final int LATCH = 5;
    private static final int KINDS = 6;

    private static final int ROOMS = 16;
    private static final int HALF_ROUND = 8;
    private static final int MOST_HANDLES = 8;
    private static final int MOST_MEMBERS = 6;
    private static final int MOST_HELD = 3;
    private static final int NOBODY = -1;
    private static final int NO_WAY = -1;

    private static final int MOST_WEAR = 99;
    private static final int MOST_FINES = 9999;
    private static final int MOST_LOAN = 30;
    private static final int FIRST_LOAN = 5;
    private static final int LAST_DAY = 9999;
    private static final int MOST_DAYS = 60;
    private static final int MOST_USES = 99;

    private static final int MOST_BYTES = 120;
    private static final int SHEETS = 4;
    private static final int MOST_NUMBERS = 40;

    private final Library library;
    // Questions of the kind "what if" are asked of a copy, so that nothing changes.
    private final Library supposed;
    private final Library kept;
    private boolean isKept;
    private final Tape tape;
    private final Text text;
    private final Sheet[] sheets;
    private final int[] told;

    public HandleLoans() {
        library = new Library();
        supposed = new Library();
        kept = new Library();
        tape = new Tape();
        text = new Text(tape, supposed);
        sheets = new Sheet[SHEETS];
        for (int s = 0; s < SHEETS; s++) {
            sheets[s] = new Sheet();
        }
        told = new int[FINDINGS];
    }

    // ---- handles, members

    public int handle(int kind, int from, int to) {
        if (!isKind(kind) || !isRoom(from) || !isRoom(to)) {
            return tell(BEYOND);
        }
        if (!library.hasPlaceForHandle()) {
            return tell(FULL);
        }
        return library.addHandle(kind, from, to, 0);
    }

    public int of(int handle, int what) {
        if (!library.hasHandle(handle)) {
            return tell(BEYOND);
        }
        Handle h = library.handles[handle];
        switch (what) {
            case 0: return h.kind;
            case 1: return h.from;
            case 2: return h.to;
            case 3: return h.wear;
            case 4: return h.holder;
            case 5: return h.out;
            case 6: return h.isLate(library.loanDays) ? 1 : 0;
            case 7: return h.end(library.loanDays);
            case 8: return h.wears(library.day);
            default: return tell(BEYOND);
        }
    }

    public int set(int handle, int what, int v) {
        if (!library.hasHandle(handle) || what < 1 || what > 3) {
            return tell(BEYOND);
        }
        if (what == 3 ? !isUpTo(v, MOST_WEAR) : !isRoom(v)) {
            return tell(BEYOND);
        }
        Handle h = library.handles[handle];
        int was;
        if (what == 1) {
            was = h.from;
            h.from = v;
        } else if (what == 2) {
            was = h.to;
            h.to = v;
        } else {
            was = h.wear;
            h.wear = v;
        }
        return was;
    }

    public int turn(int handle, int kind) {
        if (!library.hasHandle(handle) || !isKind(kind)) {
            return tell(BEYOND);
        }
        Handle h = library.handles[handle];
        int was = h.kind;
        h.kind = kind;
        return was;
    }

    public int as(int handle, int kind) {
        if (!library.hasHandle(handle) || !isKind(kind)) {
            return tell(BEYOND);
        }
        Handle h = library.handles[handle];
        return h.isOfKind(kind) ? h.wear : tell(KIND);
    }

    public int leads(int handle, int room) {
        if (!library.hasHandle(handle) || !isRoom(room)) {
            return tell(BEYOND);
        }
        if (!library.opensIn(handle, room)) {
            return tell(NONE);
        }
        return library.ledTo(handle, room);
    }

    public int pair(int handle, int other) {
        if (!library.hasHandle(handle) || !library.hasHandle(other) || handle == other) {
            return tell(BEYOND);
        }
        return library.handles[handle].isPairOf(library.handles[other]) ? 1 : 0;
    }

    public int member(int room) {
        if (!isRoom(room)) {
            return tell(BEYOND);
        }
        if (!library.hasPlaceForMember()) {
            return tell(FULL);
        }
        return library.addMember(room);
    }

    public int about(int member, int what) {
        if (!library.hasMember(member)) {
            return tell(BEYOND);
        }
        switch (what) {
            case 0: return library.members[member].at;
            case 1: return library.members[member].fines;
            case 2: return library.heldBy(member);
            case 3: return library.openTo(member);
            default: return tell(BEYOND);
        }
    }

    public int place(int member, int what, int v) {
        if (!library.hasMember(member) || what < 0 || what > 1) {
            return tell(BEYOND);
        }
        if (what == 0 ? !isRoom(v) : !isUpTo(v, MOST_FINES)) {
            return tell(BEYOND);
        }
        Member m = library.members[member];
        int was;
        if (what == 0) {
            was = m.at;
            m.at = v;
        } else {
            was = m.fines;
            m.fines = v;
        }
        return was;
    }

    public int loan(int v) {
        if (!isUpTo(v, MOST_LOAN)) {
            return tell(BEYOND);
        }
        int was = library.loanDays;
        library.loanDays = v;
        return was;
    }

    // ---- loans, uses, days

    public int lend(int handle, int member) {
        if (!library.hasHandle(handle) || !library.hasMember(member)) {
            return tell(BEYOND);
        }
        if (library.handles[handle].isLent()) {
            return tell(STATE);
        }
        if (library.hasHandsFull(member)) {
            return tell(FULL);
        }
        if (library.holdsPairOf(member, handle)) {
            return tell(KIND);
        }
        library.handles[handle].holder = member;
        return library.heldCount(member);
    }

    public int back(int handle) {
        if (!library.hasHandle(handle)) {
            return tell(BEYOND);
        }
        Handle h = library.handles[handle];
        if (!h.isLent()) {
            return tell(STATE);
        }
        int was = h.out;
        h.holder = NOBODY;
        h.out = 0;
        return was;
    }

    public int use(int member, int handle) {
        if (!library.hasMember(member) || !library.hasHandle(handle)) {
            return tell(BEYOND);
        }
        Member m = library.members[member];
        if (!library.holds(member, handle) || !library.opensIn(handle, m.at)) {
            return tell(STATE);
        }
        m.at = library.ledTo(handle, m.at);
        library.handles[handle].wearOnce(library.day);
        return m.at;
    }

    public int days(int n) {
        if (n < 1 || n > MOST_DAYS) {
            return tell(BEYOND);
        }
        if (library.day + n > LAST_DAY) {
            return tell(STATE);
        }
        library.goOn(n);
        return library.allFines();
    }

    public int now(int what) {
        switch (what) {
            case 0: return library.day;
            case 1: return library.allFines();
            case 2: return library.allLent();
            case 3: return library.allLate();
            case 4: return library.allWear();
            case 5: return library.loanDays;
            default: return tell(BEYOND);
        }
    }

    public int on(int member, int n, int what) {
        if (!library.hasMember(member) || !isUpTo(n, MOST_DAYS) || what < 0 || what > 1) {
            return tell(BEYOND);
        }
        if (what == 0) {
            return library.finesAhead(member, n, library.loanDays);
        }
        supposed.becomes(library);
        supposed.goOn(n);
        return supposed.reachOf(member);
    }

    public int late(int handle) {
        if (!library.hasHandle(handle)) {
            return tell(BEYOND);
        }
        Handle h = library.handles[handle];
        int ahead = Math.max(0, library.loanDays - h.out + 1);
        return h.isLent() && ahead <= MOST_DAYS ? ahead : tell(NONE);
    }

    // ---- where one comes

    public int reach(int member) {
        if (!library.hasMember(member)) {
            return tell(BEYOND);
        }
        return library.reachOf(member);
    }

    public int way(int member, int room) {
        if (!library.hasMember(member) || !isRoom(room)) {
            return tell(BEYOND);
        }
        int turns = library.turnsTo(member, library.members[member].at, room);
        return turns == NO_WAY ? tell(NONE) : turns;
    }

    public int next(int member, int room) {
        if (!library.hasMember(member) || !isRoom(room)) {
            return tell(BEYOND);
        }
        if (library.members[member].at == room) {
            return tell(STATE);
        }
        int first = library.firstOnWay(member, room);
        return first == NO_WAY ? tell(NONE) : first;
    }

    public int wanted(int member, int room) {
        if (!library.hasMember(member) || !isRoom(room)) {
            return tell(BEYOND);
        }
        if (library.canCome(member, room)) {
            return tell(STATE);
        }
        supposed.becomes(library);
        int found = supposed.firstWanted(member, room, 0);
        return found == NO_WAY ? tell(NONE) : found;
    }

    public int two(int member, int room) {
        if (!library.hasMember(member) || !isRoom(room)) {
            return tell(BEYOND);
        }
        if (library.canCome(member, room)) {
            return tell(STATE);
        }
        supposed.becomes(library);
        for (int first = 0; first < supposed.handleCount; first++) {
            if (supposed.mayLend(first, member)) {
                supposed.handles[first].holder = member;
                int second = supposed.firstWanted(member, room, first + 1);
                supposed.handles[first].holder = NOBODY;
                if (second != NO_WAY) {
                    return 10 * first + second;
                }
            }
        }
        return tell(NONE);
    }

    public int meet(int member, int other) {
        if (!library.hasMember(member) || !library.hasMember(other) || member == other) {
            return tell(BEYOND);
        }
        supposed.becomes(library);
        for (int d = 0; d <= MOST_DAYS; d++) {
            if ((supposed.reachOf(member) & supposed.reachOf(other)) != 0) {
                return d;
            }
            supposed.goOn(1);
        }
        return tell(NONE);
    }

    public int kind(int member, int handle) {
        if (!library.hasMember(member) || !library.hasHandle(handle)) {
            return tell(BEYOND);
        }
        if (!library.holds(member, handle)) {
            return tell(STATE);
        }
        supposed.becomes(library);
        int best = HANDLE;
        int most = 0;
        for (int k = 0; k < KINDS; k++) {
            supposed.handles[handle].kind = k;
            int rooms = Integer.bitCount(supposed.reachOf(member));
            if (rooms > most) {
                most = rooms;
                best = k;
            }
        }
        return best;
    }

    public int least(int member, int n) {
        if (!library.hasMember(member) || !isUpTo(n, MOST_DAYS)) {
            return tell(BEYOND);
        }
        int fines = library.members[member].fines;
        for (int days = 0; days <= MOST_LOAN; days++) {
            if (library.finesAhead(member, n, days) <= fines) {
                return days;
            }
        }
        return tell(NONE);
    }

    public int uses(int handle, int room) {
        if (!library.hasHandle(handle) || !isRoom(room)) {
            return tell(BEYOND);
        }
        supposed.becomes(library);
        int at = room;
        int used = 0;
        while (used < MOST_USES && supposed.opensIn(handle, at)) {
            at = supposed.ledTo(handle, at);
            supposed.handles[handle].wearOnce(supposed.day);
            used++;
        }
        return used;
    }

    // ---- the text

    public int feed(int bytes, int n) {
        if (n < 1 || n > 4) {
            return tell(BEYOND);
        }
        if (!tape.hasPlaceFor(n)) {
            return tell(FULL);
        }
        for (int i = n - 1; i >= 0; i--) {
            tape.add((bytes >> (8 * i)) & 255);
        }
        return tape.length;
    }

    public int wipe() {
        return tape.clear();
    }

    public int house() {
        supposed.becomes(library);
        int items = text.parse();
        tape.clear();
        if (items >= 0) {
            library.becomes(supposed);
        }
        return items;
    }

    // ---- sheets

    public int sheet(int s, int bits, int n) {
        if (!isSheet(s) || bits != 0 && bits != 8 && bits != 16 && bits != 64) {
            return tell(BEYOND);
        }
        if (n < 0) {
            return tell(SIZE);
        }
        if (n > MOST_NUMBERS) {
            return tell(BEYOND);
        }
        sheets[s].start(bits, bits == 0 ? 0 : n);
        return sheets[s].size;
    }

    public long write(int s, int i, long v) {
        if (!isSheet(s)) {
            return tell(BEYOND);
        }
        Sheet sheet = sheets[s];
        if (sheet.isMissing()) {
            return tell(MISSING);
        }
        if (i < 0 || i >= sheet.size) {
            return tell(BEYOND);
        }
        long was = sheet.row[i];
        sheet.put(i, v);
        return was;
    }

    public int copy(int s, int from, int t, int to, int n) {
        if (!isSheet(s) || !isSheet(t)) {
            return tell(BEYOND);
        }
        Sheet source = sheets[s];
        Sheet target = sheets[t];
        if (source.isMissing() || target.isMissing()) {
            return tell(MISSING);
        }
        if (source.bits != target.bits) {
            return tell(KIND);
        }
        if (!source.hasPart(from, n) || !target.hasPart(to, n)) {
            return tell(BEYOND);
        }
        System.arraycopy(source.row, from, target.row, to, n);
        return n;
    }

    public int lays(int s) {
        if (!isSheet(s)) {
            return tell(BEYOND);
        }
        Sheet sheet = sheets[s];
        if (sheet.isMissing()) {
            return tell(MISSING);
        }
        int came = 0;
        for (int i = 0; i < sheet.size && i < library.handleCount; i++) {
            long wear = sheet.row[i];
            if (wear >= 0 && wear <= MOST_WEAR) {
                library.handles[i].wear = (int) wear;
                came++;
            }
        }
        return came;
    }

    public int book(int s, int member) {
        if (!isSheet(s)) {
            return tell(BEYOND);
        }
        Sheet sheet = sheets[s];
        if (sheet.isMissing()) {
            return tell(MISSING);
        }
        if (!library.hasMember(member)) {
            return tell(BEYOND);
        }
        for (int d = 0; d < sheet.size; d++) {
            sheet.put(d, library.finesAhead(member, d, library.loanDays));
        }
        return sheet.size;
    }

    public int read(int s, int member) {
        if (!isSheet(s)) {
            return tell(BEYOND);
        }
        Sheet sheet = sheets[s];
        if (sheet.isMissing()) {
            return tell(MISSING);
        }
        if (!library.hasMember(member)) {
            return tell(BEYOND);
        }
        int allowed = 1 << library.members[member].at;
        for (int i = 0; i < sheet.size; i++) {
            long room = sheet.row[i];
            if (room < 0 || room >= ROOMS || (allowed >> (int) room & 1) == 0) {
                return 1 + i;
            }
            allowed = library.oneTurnFrom(member, 1 << (int) room);
        }
        return 0;
    }

    // ---- images

    public int image() {
        kept.becomes(library);
        isKept = true;
        return 1;
    }

    public int undo() {
        if (!isKept) {
            return tell(NONE);
        }
        library.becomes(kept);
        return library.handleCount;
    }

    public int tear() {
        int was = isKept ? 1 : 0;
        isKept = false;
        return was;
    }

    public int count(int what) {
        switch (what) {
            case 0: return library.handleCount;
            case 1: return tape.length;
            case 2: return library.memberCount;
            case 3: return library.pairCount();
            default: return tell(BEYOND);
        }
    }

    public int status(int which) {
        if (which < -1 || which >= FINDINGS) {
            return tell(BEYOND);
        }
        if (which >= 0) {
            return told[which];
        }
        int all = 0;
        for (int i = 0; i < FINDINGS; i++) {
            all += told[i];
        }
        return all;
    }

    /** Every finding is answered through here, so that status() misses none. */
    private int tell(int finding) {
        int which = BEYOND - finding;
        if (which >= 0 && which < FINDINGS) {
            told[which]++;
        }
        return finding;
    }

    private static boolean isUpTo(int v, int most) {
        return v >= 0 && v <= most;
    }

    private static boolean isRoom(int v) {
        return v >= 0 && v < ROOMS;
    }

    private static boolean isKind(int v) {
        return v >= 0 && v < KINDS;
    }

    private static boolean isSheet(int v) {
        return v >= 0 && v < SHEETS;
    }

    /** One handle; what hangs on the day or on LOAN takes them as arguments. */
    private static final class Handle {
        private static final int BRASS_IS_WORN = 50;
        private static final int KNOB_IS_WORN = 10;

        int kind;
        int from;
        int to;
        int wear;
        int holder;
        int out;

        Handle() {
            holder = NOBODY;
        }

        void becomes(Handle other) {
            kind = other.kind;
            from = other.from;
            to = other.to;
            wear = other.wear;
            holder = other.holder;
            out = other.out;
        }

        boolean isLent() {
            return holder != NOBODY;
        }

        boolean isLate(int loanDays) {
            return holder != NOBODY && out > loanDays;
        }

        boolean isOfKind(int other) {
            switch (other) {
                case HANDLE: return true;
                case BRASS: return kind == BRASS || kind == KNOB;
                case BONE: return kind == BONE || kind == LATCH;
                default: return kind == other;
            }
        }

        boolean isPairOf(Handle other) {
            return from == other.from && to == other.to || from == other.to && to == other.from;
        }

        /** TO, farther round by as many rooms as the handle has MOVED. */
        int end(int loanDays) {
            int over = isLate(loanDays) ? out - loanDays : 0;
            switch (kind) {
                case BONE:
                case LATCH: return (to + 2 * over) % ROOMS;
                case KNOB: return to;
                default: return (to + over) % ROOMS;
            }
        }

        boolean opensIn(int room, int day, int loanDays) {
            boolean isFrom = room == from;
            boolean isEnd = room == end(loanDays);
            boolean asHandle = (isFrom || isEnd) && wear < MOST_WEAR;
            boolean asBrass = asHandle && wear < BRASS_IS_WORN;
            boolean asBone = asHandle && isFrom;
            switch (kind) {
                case BRASS: return asBrass;
                case BONE: return asBone;
                case ROPE: return asHandle && (isFrom || day % 2 == 0);
                case KNOB: return asBrass || isOpposite(room) && wear < KNOB_IS_WORN;
                case LATCH: return asBone || isEnd && isLate(loanDays) && wear < MOST_WEAR;
                default: return asHandle;
            }
        }

        private boolean isOpposite(int room) {
            return room == (from + HALF_ROUND) % ROOMS;
        }

        int ledTo(int room, int loanDays) {
            int end = end(loanDays);
            return room == end ? from : end;
        }

        int wears(int day) {
            switch (kind) {
                case BONE: return 2;
                case ROPE:
                case LATCH: return 3;
                case KNOB: return day % 3 == 0 ? 0 : 1;
                default: return 1;
            }
        }

        void wearOnce(int day) {
            wear = Math.min(MOST_WEAR, wear + wears(day));
        }
    }

    private static final class Member {
        int at;
        int fines;

        void becomes(Member other) {
            at = other.at;
            fines = other.fines;
        }
    }

    /** All that an image keeps: the day, LOAN, the handles and the members. */
    private static final class Library {
        int day;
        int loanDays;
        final Handle[] handles;
        int handleCount;
        final Member[] members;
        int memberCount;

        Library() {
            loanDays = FIRST_LOAN;
            handles = new Handle[MOST_HANDLES];
            for (int h = 0; h < MOST_HANDLES; h++) {
                handles[h] = new Handle();
            }
            members = new Member[MOST_MEMBERS];
            for (int m = 0; m < MOST_MEMBERS; m++) {
                members[m] = new Member();
            }
        }

        void becomes(Library other) {
            day = other.day;
            loanDays = other.loanDays;
            handleCount = other.handleCount;
            for (int h = 0; h < handleCount; h++) {
                handles[h].becomes(other.handles[h]);
            }
            memberCount = other.memberCount;
            for (int m = 0; m < memberCount; m++) {
                members[m].becomes(other.members[m]);
            }
        }

        boolean hasHandle(int handle) {
            return handle >= 0 && handle < handleCount;
        }

        boolean hasMember(int member) {
            return member >= 0 && member < memberCount;
        }

        boolean hasPlaceForHandle() {
            return handleCount < MOST_HANDLES;
        }

        boolean hasPlaceForMember() {
            return memberCount < MOST_MEMBERS;
        }

        /** Behind hasPlaceForHandle() only. */
        int addHandle(int kind, int from, int to, int wear) {
            Handle h = handles[handleCount];
            h.kind = kind;
            h.from = from;
            h.to = to;
            h.wear = wear;
            // The row is used again after undo(), so an older loan may stand here.
            h.holder = NOBODY;
            h.out = 0;
            handleCount++;
            return handleCount - 1;
        }

        /** Behind hasPlaceForMember() only. */
        int addMember(int room) {
            members[memberCount].at = room;
            members[memberCount].fines = 0;
            memberCount++;
            return memberCount - 1;
        }

        boolean opensIn(int handle, int room) {
            return handles[handle].opensIn(room, day, loanDays);
        }

        int ledTo(int handle, int room) {
            return handles[handle].ledTo(room, loanDays);
        }

        boolean holds(int member, int handle) {
            return handles[handle].holder == member;
        }

        int heldBy(int member) {
            int held = 0;
            for (int h = 0; h < handleCount; h++) {
                if (holds(member, h)) {
                    held |= 1 << h;
                }
            }
            return held;
        }

        int heldCount(int member) {
            return Integer.bitCount(heldBy(member));
        }

        int openTo(int member) {
            int open = 0;
            for (int h = 0; h < handleCount; h++) {
                if (holds(member, h) && opensIn(h, members[member].at)) {
                    open |= 1 << h;
                }
            }
            return open;
        }

        int allLent() {
            int lent = 0;
            for (int h = 0; h < handleCount; h++) {
                if (handles[h].isLent()) {
                    lent |= 1 << h;
                }
            }
            return lent;
        }

        int allLate() {
            int overdue = 0;
            for (int h = 0; h < handleCount; h++) {
                if (handles[h].isLate(loanDays)) {
                    overdue |= 1 << h;
                }
            }
            return overdue;
        }

        int allWear() {
            int sum = 0;
            for (int h = 0; h < handleCount; h++) {
                sum += handles[h].wear;
            }
            return sum;
        }

        int allFines() {
            int sum = 0;
            for (int m = 0; m < memberCount; m++) {
                sum += members[m].fines;
            }
            return sum;
        }

        int pairCount() {
            int pairs = 0;
            for (int g = 0; g < handleCount; g++) {
                for (int h = g + 1; h < handleCount; h++) {
                    if (handles[g].isPairOf(handles[h])) {
                        pairs++;
                    }
                }
            }
            return pairs;
        }

        boolean hasHandsFull(int member) {
            return heldCount(member) >= MOST_HELD;
        }

        boolean holdsPairOf(int member, int handle) {
            for (int h = 0; h < handleCount; h++) {
                if (h != handle && holds(member, h) && handles[h].isPairOf(handles[handle])) {
                    return true;
                }
            }
            return false;
        }

        boolean mayLend(int handle, int member) {
            return !handles[handle].isLent() && !hasHandsFull(member) && !holdsPairOf(member, handle);
        }

        void goOn(int n) {
            for (int m = 0; m < memberCount; m++) {
                members[m].fines = finesAhead(m, n, loanDays);
            }
            for (int h = 0; h < handleCount; h++) {
                if (handles[h].isLent()) {
                    handles[h].out += n;
                }
            }
            day += n;
        }

        /** Of the n days to come, a handle is late on those on which it is out for more than the loan. */
        int finesAhead(int member, int n, int loan) {
            int fines = members[member].fines;
            for (int h = 0; h < handleCount; h++) {
                if (holds(member, h)) {
                    fines += Math.max(0, Math.min(n, handles[h].out + n - loan));
                }
            }
            return Math.min(MOST_FINES, fines);
        }

        /** The rooms to which the handles of a member lead from any of some rooms. */
        int oneTurnFrom(int member, int rooms) {
            int led = 0;
            for (int h = 0; h < handleCount; h++) {
                Handle held = handles[h];
                for (int r = 0; r < ROOMS && held.holder == member; r++) {
                    if ((rooms >> r & 1) != 0 && held.opensIn(r, day, loanDays)) {
                        led |= 1 << held.ledTo(r, loanDays);
                    }
                }
            }
            return led;
        }

        int reachOf(int member) {
            int reached = 1 << members[member].at;
            int fresh = reached;
            for (int turns = 0; turns < ROOMS && fresh != 0; turns++) {
                fresh = oneTurnFrom(member, fresh) & ~reached;
                reached |= fresh;
            }
            return reached;
        }

        boolean canCome(int member, int room) {
            return (reachOf(member) >> room & 1) != 0;
        }

        int turnsTo(int member, int start, int room) {
            int reached = 1 << start;
            int fresh = reached;
            for (int turns = 0; turns < ROOMS && fresh != 0; turns++) {
                if ((fresh >> room & 1) != 0) {
                    return turns;
                }
                fresh = oneTurnFrom(member, fresh) & ~reached;
                reached |= fresh;
            }
            return NO_WAY;
        }

        int firstOnWay(int member, int room) {
            int at = members[member].at;
            int turns = turnsTo(member, at, room);
            for (int h = 0; h < handleCount && turns > 0; h++) {
                if (holds(member, h) && opensIn(h, at)
                        && turnsTo(member, ledTo(h, at), room) == turns - 1) {
                    return h;
                }
            }
            return NO_WAY;
        }

        /** The first handle from one on that is wanted; it is lent for a try and comes back. */
        int firstWanted(int member, int room, int start) {
            for (int h = start; h < handleCount; h++) {
                if (mayLend(h, member)) {
                    handles[h].holder = member;
                    int reached = reachOf(member);
                    handles[h].holder = NOBODY;
                    if ((reached >> room & 1) != 0) {
                        return h;
                    }
                }
            }
            return NO_WAY;
        }
    }

    private static final class Tape {
        final int[] bytes;
        int length;

        Tape() {
            bytes = new int[MOST_BYTES];
        }

        boolean hasPlaceFor(int n) {
            return length + n <= MOST_BYTES;
        }

        /** Behind hasPlaceFor() only. */
        void add(int b) {
            bytes[length] = b;
            length++;
        }

        int clear() {
            int was = length;
            length = 0;
            return was;
        }
    }

    /** Reads the tape as the text of a house; its items come to a library. */
    private static final class Text {
        private static final int END = 0;
        private static final int WORD = 1;
        private static final int NUMBER = 2;
        private static final int SIGN = 3;
        private static final int NO_TOKEN = 4;
        private static final int ABOVE_ALL_NUMBERS = 1000;
        private static final int REFUSED = -1;

        private final Tape tape;
        private final Library library;
        private int token;
        private int start;
        private int after;
        private int value;

        Text(Tape tape, Library library) {
            this.tape = tape;
            this.library = library;
        }

        /** How many items; or -1 less the place of the token at which reading stopped. */
        int parse() {
            after = 0;
            step();
            for (int items = 1; items <= MOST_BYTES; items++) {
                if (!takeItem()) {
                    break;
                }
                if (token == END) {
                    return items;
                }
                if (token != SIGN) {
                    break;
                }
                step();
            }
            return -1 - start;
        }

        // Each take.. goes past what it takes; where it refuses, the refused token stays the current one.

        private boolean takeItem() {
            int kind = namedKind();
            if (kind != REFUSED) {
                return takeHandle(kind);
            }
            if (isWord("member")) {
                return takeMember();
            }
            return takeWord("loan") && takeLoan();
        }

        private boolean takeHandle(int kind) {
            if (!library.hasPlaceForHandle()) {
                return false;
            }
            step();
            if (!takeWord("from")) {
                return false;
            }
            int from = takeNumber(ROOMS - 1);
            if (from == REFUSED || !takeWord("to")) {
                return false;
            }
            int to = takeNumber(ROOMS - 1);
            if (to == REFUSED) {
                return false;
            }
            int wear = takeWord("wear") ? takeNumber(MOST_WEAR) : 0;
            if (wear == REFUSED) {
                return false;
            }
            library.addHandle(kind, from, to, wear);
            return true;
        }

        private boolean takeMember() {
            if (!library.hasPlaceForMember()) {
                return false;
            }
            step();
            int room = takeWord("at") ? takeNumber(ROOMS - 1) : 0;
            if (room == REFUSED) {
                return false;
            }
            library.addMember(room);
            return true;
        }

        private boolean takeLoan() {
            int days = takeNumber(MOST_LOAN);
            if (days == REFUSED) {
                return false;
            }
            library.loanDays = days;
            return true;
        }

        private boolean takeWord(String word) {
            if (!isWord(word)) {
                return false;
            }
            step();
            return true;
        }

        private int takeNumber(int most) {
            if (token != NUMBER || value > most) {
                return REFUSED;
            }
            int taken = value;
            step();
            return taken;
        }

        private int namedKind() {
            for (int k = 0; k < KINDS; k++) {
                if (isWord(nameOf(k))) {
                    return k;
                }
            }
            return REFUSED;
        }

        private static String nameOf(int kind) {
            switch (kind) {
                case BRASS: return "brass";
                case BONE: return "bone";
                case ROPE: return "rope";
                case KNOB: return "knob";
                case LATCH: return "latch";
                default: return "handle";
            }
        }

        private boolean isWord(String word) {
            if (token != WORD || after - start != word.length()) {
                return false;
            }
            for (int i = 0; i < word.length(); i++) {
                if (tape.bytes[start + i] != word.charAt(i)) {
                    return false;
                }
            }
            return true;
        }

        /** Goes to the token that comes next. */
        private void step() {
            start = after;
            while (start < tape.length && tape.bytes[start] == ' ') {
                start++;
            }
            after = start;
            if (start >= tape.length) {
                token = END;
                return;
            }
            token = tokenWith(tape.bytes[start]);
            after++;
            boolean isLong = token == WORD || token == NUMBER;
            while (isLong && after < tape.length && tokenWith(tape.bytes[after]) == token) {
                after++;
            }
            value = token == NUMBER ? numberHere() : 0;
        }

        private static int tokenWith(int b) {
            if (b >= 'a' && b <= 'z') {
                return WORD;
            }
            if (b >= '0' && b <= '9') {
                return NUMBER;
            }
            return b == ';' ? SIGN : NO_TOKEN;
        }

        private int numberHere() {
            int number = 0;
            for (int i = start; i < after && number < ABOVE_ALL_NUMBERS; i++) {
                // Held, so that a long row of digits doesn't wrap around to a small number.
                number = Math.min(ABOVE_ALL_NUMBERS, number * 10 + tape.bytes[i] - '0');
            }
            return number;
        }
    }

    /** A row of numbers of 8, 16 or 64 bits; bits 0 says that it is missing. */
    private static final class Sheet {
        int bits;
        int size;
        final long[] row;

        Sheet() {
            row = new long[MOST_NUMBERS];
        }

        void start(int newBits, int newSize) {
            bits = newBits;
            size = newSize;
            for (int i = 0; i < MOST_NUMBERS; i++) {
                row[i] = 0;
            }
        }

        boolean isMissing() {
            return bits == 0;
        }

        /** Numbers are signed, as Java's byte, short and long are. */
        void put(int i, long v) {
            if (i < 0 || i >= size) {
                return;
            }
            if (bits == 8) {
                row[i] = (byte) v;
            } else if (bits == 16) {
                row[i] = (short) v;
            } else {
                row[i] = v;
            }
        }

        /** Says so without a sum that might wrap around. */
        boolean hasPart(int from, int n) {
            return from >= 0 && n >= 0 && n <= size && from <= size - n;
        }
    }
}
