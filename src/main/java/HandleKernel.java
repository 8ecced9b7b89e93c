public final class HandleKernel {
    public static final int OK = 0, NO_PROCESS = -1, BAD_HANDLE = -2, WRONG_KIND = -3, NO_RIGHT = -4, FULL = -5, NO_ROOM = -6, CLOSED = -7, EMPTY = -8, BAD_VALUE = -9;

    private static final int NONE = -1;

    private static final int EVENT = 0, END = 1, MEMORY = 2, PORT = 3, PROCESS = 4;
    private static final int FREE = -1, ANY_KIND = -1;

    private static final int READ = 1, WRITE = 2, COPY = 4, SEND = 8, WATCH = 16, MANAGE = 32;
    private static final int NO_RIGHTS = 0, ALL_RIGHTS = 63;

    private static final int READABLE = 1 << 8, PEER_CLOSED = 1 << 9, DEAD = 1 << 10;
    private static final int ALL_SIGNALS = 2047;
    private static final int EVENT_SIGNALS = 8;

    private static final int OBJECTS = 16, PROCESSES = 4, WATCHES = 12;
    private static final int PLACES = 10, ALL_PLACES = PROCESSES * PLACES;
    private static final int CELLS = 8, ALL_CELLS = OBJECTS * CELLS;
    private static final int MESSAGES = 4, ALL_MESSAGES = OBJECTS * MESSAGES;
    private static final int CARRIED = 2, ALL_CARRIED = ALL_MESSAGES * CARRIED;
    private static final int PACKETS = 6, ALL_PACKETS = OBJECTS * PACKETS;
    private static final int GOT = 3, ALL_GOT = PROCESSES * GOT;

    private static final int CHANNEL_FACTOR = 16;
    private static final long LONG_REFUSAL = 10000000000L;

    // An object is held in a slot, which later objects use again; only its number is for good.
    private final int[] kindOf = new int[OBJECTS];
    private final int[] numberOf = new int[OBJECTS];
    private final int[] signalsOf = new int[OBJECTS];
    private final int[] peerOf = new int[OBJECTS];
    private final int[] processOf = new int[OBJECTS];
    private final int[] cells = new int[ALL_CELLS];
    private int made = 0;

    private final boolean[] running = new boolean[PROCESSES];
    private final int[] gotten = new int[ALL_GOT];
    private final int[] handleObject = new int[ALL_PLACES];
    private final int[] handleRights = new int[ALL_PLACES];

    // The messages that wait for an end stand in its part of the arrays, the first one foremost.
    private final int[] waiting = new int[OBJECTS];
    private final int[] messageValue = new int[ALL_MESSAGES];
    private final int[] carriedObject = new int[ALL_CARRIED];
    private final int[] carriedRights = new int[ALL_CARRIED];

    private final int[] packets = new int[OBJECTS];
    private final int[] packetKey = new int[ALL_PACKETS];
    private final int[] packetNumber = new int[ALL_PACKETS];
    private final int[] packetSignals = new int[ALL_PACKETS];

    // Watches stand in the order in which they were made, since the first one that is met ends first.
    private int watches = 0;
    private final int[] watchObject = new int[WATCHES];
    private final int[] watchBits = new int[WATCHES];
    private final int[] watchPort = new int[WATCHES];
    private final int[] watchKey = new int[WATCHES];

    public HandleKernel() {
        for (int slot = 0; slot < OBJECTS; slot++) {
            kindOf[slot] = FREE;
        }
        for (int process = 0; process < PROCESSES; process++) {
            dropHandles(process);
            forgetGot(process);
        }
        running[0] = true;
    }

    public int make(int process, int kind) {
        if (!runs(process)) {
            return NO_PROCESS;
        }
        if (kind != EVENT && kind != END && kind != MEMORY && kind != PORT) {
            return BAD_VALUE;
        }
        int wanted = kind == END ? 2 : 1;
        if (objectCount() + wanted > OBJECTS) {
            return FULL;
        }
        if (freePlaceCount(process) < wanted) {
            return NO_ROOM;
        }
        int first = newObject(kind);
        int firstPlace = newHandle(process, first, ALL_RIGHTS);
        if (kind != END) {
            return firstPlace;
        }
        int second = newObject(kind);
        int secondPlace = newHandle(process, second, ALL_RIGHTS);
        peerOf[first] = second;
        peerOf[second] = first;
        return CHANNEL_FACTOR * secondPlace + firstPlace;
    }

    public int copy(int process, int handle, int rights) {
        int refusal = testHandle(process, handle, ANY_KIND, COPY);
        if (refusal != OK) {
            return refusal;
        }
        int from = process * PLACES + handle;
        return newHandle(process, handleObject[from], handleRights[from] & rights);
    }

    public int restrict(int process, int handle, int rights) {
        int refusal = testHandle(process, handle, ANY_KIND, NO_RIGHTS);
        if (refusal != OK) {
            return refusal;
        }
        int at = process * PLACES + handle;
        handleRights[at] &= rights;
        return handleRights[at];
    }

    public int close(int process, int handle) {
        int refusal = testHandle(process, handle, ANY_KIND, NO_RIGHTS);
        if (refusal != OK) {
            return refusal;
        }
        handleObject[process * PLACES + handle] = NONE;
        destroyUnreferenced();
        return OK;
    }

    public int signal(int process, int handle, int signal, boolean on) {
        int refusal = testHandle(process, handle, EVENT, WRITE);
        if (refusal != OK) {
            return refusal;
        }
        if (signal < 0 || signal >= EVENT_SIGNALS) {
            return BAD_VALUE;
        }
        int event = handleObject[process * PLACES + handle];
        if (on) {
            signalsOf[event] |= 1 << signal;
            endMetWatches();
        } else {
            signalsOf[event] &= ~(1 << signal);
        }
        return signalsOf[event];
    }

    public int send(int process, int handle, int v, int a, int b) {
        int refusal = testSend(process, handle, a, b);
        if (refusal != OK) {
            return refusal;
        }
        int peer = peerOf[handleObject[process * PLACES + handle]];
        if (peer == NONE) {
            return CLOSED;
        }
        if (waiting[peer] >= MESSAGES) {
            return FULL;
        }
        int message = peer * MESSAGES + waiting[peer];
        messageValue[message] = v;
        putIntoMessage(process, a, message * CARRIED);
        putIntoMessage(process, b, message * CARRIED + 1);
        waiting[peer]++;
        signalsOf[peer] |= READABLE;
        endMetWatches();
        return OK;
    }

    public int receive(int process, int handle) {
        int refusal = testHandle(process, handle, END, READ);
        if (refusal != OK) {
            return refusal;
        }
        int end = handleObject[process * PLACES + handle];
        if (waiting[end] == 0) {
            return peerOf[end] == NONE ? CLOSED : EMPTY;
        }
        int message = end * MESSAGES;
        int carried = carriedCount(message);
        if (freePlaceCount(process) < carried) {
            return NO_ROOM;
        }
        int got = process * GOT;
        gotten[got] = messageValue[message];
        gotten[got + 1] = takeFromMessage(process, message * CARRIED);
        gotten[got + 2] = takeFromMessage(process, message * CARRIED + 1);
        dropFirstMessage(end);
        return carried;
    }

    public int got(int process, int what) {
        if (what < 0 || what >= GOT) {
            return 0;
        }
        if (process < 0 || process >= PROCESSES) {
            return what == 0 ? 0 : NONE;
        }
        return gotten[process * GOT + what];
    }

    public long load(int process, int handle, int cell) {
        int refusal = testCell(process, handle, cell, READ);
        if (refusal != OK) {
            return refusal - LONG_REFUSAL;
        }
        return cells[handleObject[process * PLACES + handle] * CELLS + cell];
    }

    public int store(int process, int handle, int cell, int v) {
        int refusal = testCell(process, handle, cell, WRITE);
        if (refusal != OK) {
            return refusal;
        }
        cells[handleObject[process * PLACES + handle] * CELLS + cell] = v;
        return OK;
    }

    public int twin(int process, int handle) {
        int refusal = testHandle(process, handle, MEMORY, READ | COPY);
        if (refusal != OK) {
            return refusal;
        }
        if (objectCount() >= OBJECTS) {
            return FULL;
        }
        if (freePlaceCount(process) == 0) {
            return NO_ROOM;
        }
        int from = handleObject[process * PLACES + handle];
        int to = newObject(MEMORY);
        for (int cell = 0; cell < CELLS; cell++) {
            cells[to * CELLS + cell] = cells[from * CELLS + cell];
        }
        return newHandle(process, to, ALL_RIGHTS);
    }

    public int watch(int process, int handle, int port, int bits, int key) {
        int refusal = testHandle(process, handle, ANY_KIND, WATCH);
        if (refusal != OK) {
            return refusal;
        }
        refusal = testHandle(process, port, PORT, WRITE);
        if (refusal != OK) {
            return refusal;
        }
        if (watches >= WATCHES) {
            return FULL;
        }
        watchObject[watches] = handleObject[process * PLACES + handle];
        watchPort[watches] = handleObject[process * PLACES + port];
        watchBits[watches] = bits & ALL_SIGNALS;
        watchKey[watches] = key;
        watches++;
        endMetWatches();
        return OK;
    }

    public long packet(int process, int port, int part) {
        int refusal = testHandle(process, port, PORT, READ);
        if (refusal != OK) {
            return refusal - LONG_REFUSAL;
        }
        if (part < 0 || part > 3) {
            return BAD_VALUE - LONG_REFUSAL;
        }
        int object = handleObject[process * PLACES + port];
        if (part == 3) {
            return packets[object];
        }
        if (packets[object] == 0) {
            return EMPTY - LONG_REFUSAL;
        }
        int first = object * PACKETS;
        int answer = packetKey[first];
        if (part == 1) {
            answer = packetNumber[first];
        } else if (part == 2) {
            answer = packetSignals[first];
        }
        dropFirstPacket(object);
        return answer;
    }

    public int spawn(int process, int a) {
        if (!runs(process)) {
            return NO_PROCESS;
        }
        int refusal = testSent(process, a);
        if (refusal != OK) {
            return refusal;
        }
        int child = freeProcess();
        if (child == NONE) {
            return BAD_VALUE;
        }
        if (objectCount() >= OBJECTS) {
            return FULL;
        }
        if (a == NONE && freePlaceCount(process) == 0) {
            return NO_ROOM;
        }
        running[child] = true;
        forgetGot(child);
        if (a != NONE) {
            int from = process * PLACES + a;
            newHandle(child, handleObject[from], handleRights[from]);
            handleObject[from] = NONE;
        }
        int object = newObject(PROCESS);
        processOf[object] = child;
        return newHandle(process, object, ALL_RIGHTS);
    }

    public int kill(int process, int handle) {
        int refusal = testHandle(process, handle, PROCESS, MANAGE);
        if (refusal != OK) {
            return refusal;
        }
        int object = handleObject[process * PLACES + handle];
        int killed = processOf[object];
        if (!running[killed]) {
            return EMPTY;
        }
        running[killed] = false;
        signalsOf[object] |= DEAD;
        endMetWatches();
        dropHandles(killed);
        destroyUnreferenced();
        return OK;
    }

    public int info(int process, int handle, int what) {
        if (!runs(process)) {
            return NO_PROCESS;
        }
        if (handle == NONE) {
            return infoOfAll(what);
        }
        int refusal = testHandle(process, handle, ANY_KIND, NO_RIGHTS);
        if (refusal != OK) {
            return refusal;
        }
        int at = process * PLACES + handle;
        int object = handleObject[at];
        switch (what) {
            case 0:
                return kindOf[object];
            case 1:
                return numberOf[object];
            case 2:
                return handleRights[at];
            case 3:
                return signalsOf[object];
            case 4:
                return references(object);
            case 5:
                return peerOf[object] == NONE ? NONE : numberOf[peerOf[object]];
            default:
                return BAD_VALUE;
        }
    }

    private int infoOfAll(int what) {
        switch (what) {
            case 0:
                return objectCount();
            case 1:
                return watches;
            case 2:
                return runningBits();
            case 3:
                return made;
            default:
                return BAD_VALUE;
        }
    }

    // Tests

    private boolean runs(int process) {
        return process >= 0 && process < PROCESSES && running[process];
    }

    private int testHandle(int process, int handle, int kind, int rights) {
        if (!runs(process)) {
            return NO_PROCESS;
        }
        if (handle < 0 || handle >= PLACES) {
            return BAD_HANDLE;
        }
        int at = process * PLACES + handle;
        if (handleObject[at] == NONE) {
            return BAD_HANDLE;
        }
        if (kind != ANY_KIND && kindOf[handleObject[at]] != kind) {
            return WRONG_KIND;
        }
        return (handleRights[at] & rights) == rights ? OK : NO_RIGHT;
    }

    private int testSent(int process, int place) {
        return place == NONE ? OK : testHandle(process, place, ANY_KIND, SEND);
    }

    private int testSend(int process, int handle, int a, int b) {
        int refusal = testHandle(process, handle, END, WRITE);
        if (refusal != OK) {
            return refusal;
        }
        refusal = testSent(process, a);
        if (refusal != OK) {
            return refusal;
        }
        refusal = testSent(process, b);
        if (refusal != OK) {
            return refusal;
        }
        boolean same = a == b && a != NONE;
        return same || a == handle || b == handle ? BAD_VALUE : OK;
    }

    private int testCell(int process, int handle, int cell, int rights) {
        int refusal = testHandle(process, handle, MEMORY, rights);
        if (refusal != OK) {
            return refusal;
        }
        return cell < 0 || cell >= CELLS ? BAD_VALUE : OK;
    }

    // Processes and their handles

    private int runningBits() {
        int bits = 0;
        for (int process = 0; process < PROCESSES; process++) {
            if (running[process]) {
                bits |= 1 << process;
            }
        }
        return bits;
    }

    private int freeProcess() {
        for (int process = 0; process < PROCESSES; process++) {
            if (!running[process] && !hasObject(process)) {
                return process;
            }
        }
        return NONE;
    }

    private boolean hasObject(int process) {
        for (int slot = 0; slot < OBJECTS; slot++) {
            if (kindOf[slot] == PROCESS && processOf[slot] == process) {
                return true;
            }
        }
        return false;
    }

    private void forgetGot(int process) {
        gotten[process * GOT] = 0;
        gotten[process * GOT + 1] = NONE;
        gotten[process * GOT + 2] = NONE;
    }

    private void dropHandles(int process) {
        for (int place = 0; place < PLACES; place++) {
            handleObject[process * PLACES + place] = NONE;
        }
    }

    private int freePlaceCount(int process) {
        int count = 0;
        for (int place = 0; place < PLACES; place++) {
            if (handleObject[process * PLACES + place] == NONE) {
                count++;
            }
        }
        return count;
    }

    // NO_ROOM stands for the place where none is free; callers that have made an object by then have looked before.
    private int newHandle(int process, int object, int rights) {
        for (int place = 0; place < PLACES; place++) {
            int at = process * PLACES + place;
            if (handleObject[at] == NONE) {
                handleObject[at] = object;
                handleRights[at] = rights;
                return place;
            }
        }
        return NO_ROOM;
    }

    // Objects

    private int objectCount() {
        int count = 0;
        for (int slot = 0; slot < OBJECTS; slot++) {
            if (kindOf[slot] != FREE) {
                count++;
            }
        }
        return count;
    }

    // The callers have seen that a slot is free.
    private int newObject(int kind) {
        int object = 0;
        for (int slot = OBJECTS - 1; slot >= 0; slot--) {
            if (kindOf[slot] == FREE) {
                object = slot;
            }
        }
        kindOf[object] = kind;
        numberOf[object] = made;
        signalsOf[object] = 0;
        peerOf[object] = NONE;
        for (int cell = 0; cell < CELLS; cell++) {
            cells[object * CELLS + cell] = 0;
        }
        made++;
        return object;
    }

    private int references(int object) {
        int count = 0;
        for (int at = 0; at < ALL_PLACES; at++) {
            if (handleObject[at] == object) {
                count++;
            }
        }
        for (int end = 0; end < OBJECTS; end++) {
            int first = end * MESSAGES * CARRIED;
            for (int i = 0; i < waiting[end] * CARRIED; i++) {
                if (carriedObject[first + i] == object) {
                    count++;
                }
            }
        }
        return count;
    }

    private int leastUnreferenced() {
        int least = NONE;
        for (int slot = 0; slot < OBJECTS; slot++) {
            if (kindOf[slot] != FREE && references(slot) == 0) {
                if (least == NONE || numberOf[slot] < numberOf[least]) {
                    least = slot;
                }
            }
        }
        return least;
    }

    // Each turn takes an object away, so there are no more turns than slots.
    private void destroyUnreferenced() {
        for (int turn = 0; turn < OBJECTS; turn++) {
            int object = leastUnreferenced();
            if (object == NONE) {
                return;
            }
            destroy(object);
        }
    }

    private void destroy(int object) {
        dropWatchesWith(object);
        int peer = peerOf[object];
        if (peer != NONE) {
            peerOf[peer] = NONE;
            signalsOf[peer] |= PEER_CLOSED;
            endMetWatches();
        }
        waiting[object] = 0;
        packets[object] = 0;
        kindOf[object] = FREE;
    }

    // Messages

    private void putIntoMessage(int process, int place, int carried) {
        if (place == NONE) {
            carriedObject[carried] = NONE;
            return;
        }
        int at = process * PLACES + place;
        carriedObject[carried] = handleObject[at];
        carriedRights[carried] = handleRights[at];
        handleObject[at] = NONE;
    }

    private int takeFromMessage(int process, int carried) {
        if (carriedObject[carried] == NONE) {
            return NONE;
        }
        return newHandle(process, carriedObject[carried], carriedRights[carried]);
    }

    private int carriedCount(int message) {
        int count = 0;
        for (int i = 0; i < CARRIED; i++) {
            if (carriedObject[message * CARRIED + i] != NONE) {
                count++;
            }
        }
        return count;
    }

    private void dropFirstMessage(int end) {
        int first = end * MESSAGES;
        for (int i = first; i < first + MESSAGES - 1; i++) {
            messageValue[i] = messageValue[i + 1];
        }
        int firstCarried = first * CARRIED;
        for (int i = firstCarried; i < firstCarried + (MESSAGES - 1) * CARRIED; i++) {
            carriedObject[i] = carriedObject[i + CARRIED];
            carriedRights[i] = carriedRights[i + CARRIED];
        }
        waiting[end]--;
        if (waiting[end] == 0) {
            signalsOf[end] &= ~READABLE;
        }
    }

    // Watches and packets

    // A packet can make its port meet a further watch, so it is looked again after each;
    // each turn takes a watch away, so there are no more turns than watches.
    private void endMetWatches() {
        for (int turn = 0; turn < WATCHES; turn++) {
            int watch = firstMetWatch();
            if (watch == NONE) {
                return;
            }
            putPacket(watchPort[watch], watchKey[watch], watchObject[watch]);
            dropWatch(watch);
        }
    }

    private int firstMetWatch() {
        for (int watch = 0; watch < watches; watch++) {
            if ((watchBits[watch] & signalsOf[watchObject[watch]]) != 0) {
                return watch;
            }
        }
        return NONE;
    }

    private void dropWatch(int dropped) {
        for (int watch = dropped + 1; watch < watches; watch++) {
            moveWatch(watch, watch - 1);
        }
        watches--;
    }

    private void dropWatchesWith(int object) {
        int kept = 0;
        for (int watch = 0; watch < watches; watch++) {
            if (watchObject[watch] != object && watchPort[watch] != object) {
                moveWatch(watch, kept);
                kept++;
            }
        }
        watches = kept;
    }

    private void moveWatch(int from, int to) {
        watchObject[to] = watchObject[from];
        watchBits[to] = watchBits[from];
        watchPort[to] = watchPort[from];
        watchKey[to] = watchKey[from];
    }

    private void putPacket(int port, int key, int object) {
        if (packets[port] >= PACKETS) {
            return;
        }
        int packet = port * PACKETS + packets[port];
        packetKey[packet] = key;
        packetNumber[packet] = numberOf[object];
        packetSignals[packet] = signalsOf[object];
        packets[port]++;
        signalsOf[port] |= READABLE;
    }

    private void dropFirstPacket(int port) {
        int first = port * PACKETS;
        for (int i = first; i < first + PACKETS - 1; i++) {
            packetKey[i] = packetKey[i + 1];
            packetNumber[i] = packetNumber[i + 1];
            packetSignals[i] = packetSignals[i + 1];
        }
        packets[port]--;
        if (packets[port] == 0) {
            signalsOf[port] &= ~READABLE;
        }
    }
}
