/** The sentences of the document's first parts and of its Terms that name a boundary case, each with a test of its own. */
public final class TermBoundaryTest implements Names {
    private static final int[] NOT_THERE = {-1, 4, 5, LEAST, MOST};
    private static final int[] NO_PLACES = {-1, -2, 10, 11, LEAST, MOST};

    public static void main(String[] args) {
        callNumber512();
        numbersInOrderForGood();
        atMost16Objects();
        the16thIsAsGoodAsTheFirst();
        signalsOfEvents();
        readableAsLongAsMessagesWait();
        closedOnceThePeerIsDestroyed();
        eightCells();
        portSignalAsLongAsPacketsAreThere();
        deadOnceKilled();
        processes0To3();
        process0RunsAtFirst();
        places0To9();
        eachRightIsABit();
        leastFreePlace();
        allRightsIfNothingElseIsSaid();
        noProcessComesFirst();
        handlesOfSendInOrder();
        handlesOfWatchInOrder();
        kindBeforeRight();
        othersAsTheyAreNamed();
        noHandleInAPlaceOrAMessage();
        all16AreDestroyedAtOnce();
        leastNumberFirst();
        watchesOfTheDestroyed();
        endThatIsDestroyed();
        processWithoutItsObject();
        atMost12Watches();
        asSoonAsASignalIsOneOfTheBits();
        rightWhenItIsMade();
        packetTellsTheSignalsThen();
        behindTheOthersIfLessThan6();
        firstMadeEndsFirst();
        lookedAgain();
        beforeAnythingElse();
        Check.end();
    }

    private static void due(long got, long want) {
        Check.due(got, want);
    }

    private static void callNumber512() {
        Check.part("An object is used for at most 512 calls after it has been made");
        HandleKernel x = new HandleKernel();
        for (int round = 0; round < 170; round++) {
            due(x.make(0, CHANNEL), 16);
            due(x.close(0, 0), OK);
            due(x.close(0, 1), OK);
        }
        due(x.make(0, EVENT), 0);
        due(x.info(0, 0, 1), 340);
        // What later calls answer is free, but they must end as all calls do.
        for (int i = 0; i < 2000; i++) {
            x.make(0, CHANNEL);
            x.send(0, 1, i, 2, -1);
            x.close(0, i % 10);
        }
    }

    private static void numbersInOrderForGood() {
        Check.part("OBJECTS have a NUMBER (0, 1, .. in the order in which they were made, for good)");
        HandleKernel x = new HandleKernel();
        due(x.make(0, EVENT), 0);
        due(x.make(0, CHANNEL), 16 * 2 + 1);
        due(x.make(0, MEMORY), 3);
        due(x.make(0, 4), BAD_VALUE);
        due(x.twin(0, 3), 4);
        due(x.spawn(0, -1), 5);
        for (int place = 0; place < 6; place++) {
            due(x.info(0, place, 1), place);
        }
        due(x.close(0, 0), OK);
        due(x.close(0, 5), OK);
        due(x.make(0, PORT), 0);
        due(x.info(0, 0, 1), 6);
        due(x.info(0, 1, 1), 1);
        due(x.send(0, 1, 0, 0, -1), OK);
        due(x.make(0, EVENT), 0);
        due(x.info(0, 0, 1), 7);
        due(x.receive(0, 2), 1);
        due(x.info(0, 5, 1), 6);
        due(x.info(0, -1, 3), 8);
    }

    private static void atMost16Objects() {
        Check.part("at most 16 are there");
        HandleKernel x = Scenes.crowded(1);
        due(x.info(0, -1, 0), 15);
        due(x.make(0, MEMORY), 0);
        due(x.info(0, -1, 0), 16);
        for (int kind = 0; kind < 4; kind++) {
            due(x.make(0, kind), FULL);
        }
        due(x.twin(0, 0), FULL);
        due(x.spawn(0, -1), FULL);
        due(x.info(0, -1, 0), 16);
        due(x.copy(0, 0, ALL), 1);
        due(x.close(0, 0), OK);
        due(x.make(0, EVENT), FULL);
        due(x.close(0, 1), OK);
        due(x.make(0, EVENT), 0);
        due(x.make(0, EVENT), FULL);
        due(x.info(0, -1, 0), 16);
    }

    private static void the16thIsAsGoodAsTheFirst() {
        Check.part("at most 16 are there (the last two of them)");
        HandleKernel x = Scenes.crowded(2);
        due(x.make(0, CHANNEL), 16);
        due(x.info(0, -1, 0), 16);
        for (int end = 0; end < 2; end++) {
            for (int v = 0; v < 4; v++) {
                due(x.send(0, end, v, -1, -1), OK);
            }
            for (int v = 0; v < 4; v++) {
                due(x.receive(0, 1 - end), 0);
                due(x.got(0, 0), v);
            }
        }
        due(x.close(0, 0), OK);
        due(x.close(0, 1), OK);
        due(x.make(0, PORT), 0);
        due(x.make(0, PORT), 1);
        for (int port = 0; port < 2; port++) {
            for (int key = 0; key < 6; key++) {
                due(x.watch(0, 1 - port, port, READABLE, key), OK);
            }
        }
        due(x.close(0, 0), OK);
        due(x.make(0, EVENT), 0);
        due(x.signal(0, 0, 0, true), 1);
        for (int key = 0; key < 6; key++) {
            due(x.watch(0, 0, 1, 1, key), OK);
        }
        for (int key = 0; key < 6; key++) {
            due(x.packet(0, 1, 0), key);
        }
        due(x.close(0, 1), OK);
        due(x.close(0, 0), OK);
        due(x.make(0, MEMORY), 0);
        due(x.store(0, 0, 7, 5), OK);
        due(x.twin(0, 0), 1);
        due(x.load(0, 1, 7), 5);
        due(x.store(0, 1, 0, 6), OK);
        due(x.load(0, 0, 0), 0);
    }

    private static void signalsOfEvents() {
        Check.part("0 EVENT: signals 0..7 are set by calls");
        HandleKernel x = new HandleKernel();
        due(x.make(0, EVENT), 0);
        due(x.info(0, 0, 3), 0);
        due(x.signal(0, 0, -1, true), BAD_VALUE);
        due(x.signal(0, 0, 0, true), 1);
        due(x.signal(0, 0, 7, true), 129);
        due(x.signal(0, 0, 8, true), BAD_VALUE);
        due(x.info(0, 0, 3), 129);
        HandleKernel y = Scenes.oneOfEach();
        for (int place : new int[] {0, 1, 3, 4, 5}) {
            int signals = y.info(0, place, 3);
            due(y.signal(0, place, 0, true), WRONG_KIND);
            due(y.info(0, place, 3), signals);
        }
    }

    private static void readableAsLongAsMessagesWait() {
        Check.part("signal 8 READABLE as long as messages wait for it");
        HandleKernel x = new HandleKernel();
        x.make(0, CHANNEL);
        due(x.info(0, 1, 3), 0);
        for (int round = 0; round < 3; round++) {
            for (int waiting = 1; waiting <= 4; waiting++) {
                due(x.send(0, 0, 1, -1, -1), OK);
                due(x.info(0, 1, 3), READABLE);
                due(x.info(0, 0, 3), 0);
            }
            due(x.send(0, 0, 1, -1, -1), FULL);
            for (int waiting = 3; waiting >= 0; waiting--) {
                due(x.receive(0, 1), 0);
                due(x.info(0, 1, 3), waiting > 0 ? READABLE : 0);
            }
        }
        // A message that could not be taken still waits.
        due(x.make(0, EVENT), 2);
        due(x.copy(0, 2, ALL), 3);
        due(x.send(0, 0, 1, 3, -1), OK);
        Scenes.fillPlaces(x, 2, 0);
        due(x.receive(0, 1), NO_ROOM);
        due(x.info(0, 1, 3), READABLE);
    }

    private static void closedOnceThePeerIsDestroyed() {
        Check.part("9 CLOSED once its peer is destroyed");
        HandleKernel x = new HandleKernel();
        x.make(0, CHANNEL);
        x.make(0, CHANNEL);
        due(x.copy(0, 1, ALL), 4);
        due(x.close(0, 1), OK);
        due(x.info(0, 0, 3), 0);
        due(x.send(0, 2, 0, 4, -1), OK);
        due(x.info(0, 0, 3), 0);
        due(x.receive(0, 3), 1);
        due(x.got(0, 1), 1);
        due(x.info(0, 0, 3), 0);
        due(x.send(0, 1, 0, -1, -1), OK);
        due(x.close(0, 1), OK);
        due(x.info(0, 0, 3), READABLE | PEER_CLOSED);
        due(x.receive(0, 0), 0);
        due(x.info(0, 0, 3), PEER_CLOSED);
        due(x.receive(0, 0), CLOSED);
        due(x.info(0, 0, 3), PEER_CLOSED);
        due(x.info(0, 2, 3), 0);
        due(x.info(0, 3, 3), 0);
    }

    private static void eightCells() {
        Check.part("2 MEMORY: 8 cells, ints");
        HandleKernel x = new HandleKernel();
        x.make(0, MEMORY);
        x.make(0, MEMORY);
        for (int cell = 0; cell < 8; cell++) {
            due(x.store(0, 0, cell, LEAST + cell), OK);
            due(x.store(0, 1, cell, MOST - cell), OK);
        }
        for (int cell = 0; cell < 8; cell++) {
            due(x.load(0, 0, cell), LEAST + cell);
            due(x.load(0, 1, cell), MOST - cell);
        }
        due(x.store(0, 0, -1, 1), BAD_VALUE);
        due(x.store(0, 0, 8, 1), BAD_VALUE);
    }

    private static void portSignalAsLongAsPacketsAreThere() {
        Check.part("3 PORT: signal 8 as long as packets are there.");
        HandleKernel x = new HandleKernel();
        x.make(0, PORT);
        x.make(0, EVENT);
        x.signal(0, 1, 0, true);
        due(x.info(0, 0, 3), 0);
        for (int round = 0; round < 2; round++) {
            for (int packets = 1; packets <= 7; packets++) {
                due(x.watch(0, 1, 0, 1, 1), OK);
                due(x.info(0, 0, 3), READABLE);
            }
            for (int packets = 5; packets >= 0; packets--) {
                due(x.packet(0, 0, packets % 3), 1);
                due(x.packet(0, 0, 3), packets);
                due(x.info(0, 0, 3), packets > 0 ? READABLE : 0);
            }
        }
    }

    private static void deadOnceKilled() {
        Check.part("4 PROCESS: signal 10 DEAD once it is killed.");
        HandleKernel x = new HandleKernel();
        due(x.spawn(0, -1), 0);
        due(x.spawn(0, -1), 1);
        due(x.info(0, 0, 3), 0);
        due(x.kill(0, 0), OK);
        due(x.info(0, 0, 3), DEAD);
        due(x.info(0, 1, 3), 0);
        due(x.kill(0, 0), EMPTY);
        due(x.info(0, 0, 3), DEAD);
        // The same process, spawned again, has an object that is not DEAD.
        due(x.close(0, 0), OK);
        due(x.spawn(0, -1), 0);
        due(x.info(0, 0, 3), 0);
    }

    private static void processes0To3() {
        Check.part("PROCESSES 0..3 are RUNNING or not");
        HandleKernel x = new HandleKernel();
        for (int process = 1; process <= 3; process++) {
            due(x.make(process, EVENT), NO_PROCESS);
            due(x.spawn(0, -1), process - 1);
            due(x.make(process, EVENT), 0);
        }
        due(x.spawn(0, -1), BAD_VALUE);
        for (int process : NOT_THERE) {
            due(x.make(process, EVENT), NO_PROCESS);
        }
        due(x.kill(0, 2), OK);
        due(x.make(3, EVENT), NO_PROCESS);
        due(x.make(2, EVENT), 1);
    }

    private static void process0RunsAtFirst() {
        Check.part("process 0 runs at first, without an object.");
        HandleKernel x = new HandleKernel();
        due(x.info(0, -1, 2), 1);
        due(x.info(0, -1, 0), 0);
        due(x.spawn(0, -1), 0);
        due(x.info(0, -1, 2), 3);
        due(x.kill(0, 0), OK);
        due(x.info(0, -1, 2), 1);
    }

    private static void places0To9() {
        Check.part("a running process has the places 0..9");
        HandleKernel x = new HandleKernel();
        due(x.make(0, EVENT), 0);
        for (int place = 1; place < 10; place++) {
            due(x.info(0, place, 0), BAD_HANDLE);
            due(x.copy(0, 0, ALL), place);
            due(x.info(0, place, 0), EVENT);
        }
        due(x.copy(0, 0, ALL), NO_ROOM);
        for (int place : NO_PLACES) {
            due(x.close(0, place), BAD_HANDLE);
            due(x.restrict(0, place, 0), BAD_HANDLE);
        }
        due(x.info(0, 0, 4), 10);
        // Each process has places of its own, the last one of the one not next to the first one of the other.
        due(x.spawn(0, 9), 9);
        due(x.info(0, 0, 4), 10);
        for (int place = 1; place < 10; place++) {
            due(x.info(1, place, 0), BAD_HANDLE);
            due(x.copy(1, 0, ALL), place);
        }
        due(x.copy(1, 0, ALL), NO_ROOM);
        due(x.info(0, 9, 0), PROCESS);
        due(x.info(0, 0, 4), 19);
    }

    private interface Call {
        long on(HandleKernel x);
    }

    /** The call goes on with the rights alone that it needs, and not with all others. */
    private static void needs(int rights, int handle, long refusal, Call call) {
        HandleKernel x = Scenes.oneOfEach();
        due(x.restrict(0, handle, rights), rights);
        Check.holds(call.on(x) >= 0, "refused with the rights that are needed");
        for (int bit = 1; bit < ALL; bit *= 2) {
            HandleKernel y = Scenes.oneOfEach();
            due(y.restrict(0, handle, ALL - bit), ALL - bit);
            if ((rights & bit) != 0) {
                due(call.on(y), refusal);
            } else {
                Check.holds(call.on(y) >= 0, "refused without the right " + bit);
            }
        }
    }

    private static void eachRightIsABit() {
        Check.part("RIGHTS, a set of bits: 1 READ, 2 WRITE, 4 COPY, 8 SEND, 16 WATCH, 32 MANAGE.");
        for (int place = 0; place < 6; place++) {
            int handle = place;
            needs(COPY, handle, NO_RIGHT, x -> x.copy(0, handle, 0));
            needs(0, handle, NO_RIGHT, x -> x.restrict(0, handle, 0));
            needs(0, handle, NO_RIGHT, x -> x.info(0, handle, 0));
            needs(0, handle, NO_RIGHT, x -> x.close(0, handle));
            int watched = handle == 4 ? WATCH | WRITE : WATCH;
            needs(watched, handle, NO_RIGHT, x -> x.watch(0, handle, 4, 0, 0));
        }
        needs(WRITE, 2, NO_RIGHT, x -> x.signal(0, 2, 1, true));
        needs(WRITE, 0, NO_RIGHT, x -> x.send(0, 0, 0, -1, -1));
        needs(SEND, 2, NO_RIGHT, x -> x.send(0, 0, 0, 2, -1));
        needs(SEND, 2, NO_RIGHT, x -> x.send(0, 0, 0, -1, 2));
        needs(READ, 0, NO_RIGHT, x -> x.receive(0, 0));
        needs(READ, 3, LONG_REFUSAL + NO_RIGHT, x -> x.load(0, 3, 0));
        needs(WRITE, 3, NO_RIGHT, x -> x.store(0, 3, 0, 1));
        needs(READ | COPY, 3, NO_RIGHT, x -> x.twin(0, 3));
        needs(WRITE, 4, NO_RIGHT, x -> x.watch(0, 2, 4, 0, 0));
        for (int i = 0; i < 4; i++) {
            int part = i;
            needs(READ, 4, LONG_REFUSAL + NO_RIGHT, x -> x.packet(0, 4, part));
        }
        needs(SEND, 2, NO_RIGHT, x -> x.spawn(0, 2));
        needs(MANAGE, 5, NO_RIGHT, x -> x.kill(0, 5));
    }

    private static void leastFreePlace() {
        Check.part("A new handle gets the least free place");
        HandleKernel x = new HandleKernel();
        due(x.make(0, MEMORY), 0);
        Scenes.fillPlaces(x, 0, 0);
        due(x.close(0, 8), OK);
        due(x.close(0, 3), OK);
        due(x.close(0, 5), OK);
        due(x.make(0, CHANNEL), 16 * 5 + 3);
        due(x.twin(0, 0), 8);
        due(x.close(0, 8), OK);
        due(x.close(0, 1), OK);
        due(x.spawn(0, -1), 1);
        due(x.copy(0, 0, ALL), 8);
        due(x.close(0, 9), OK);
        due(x.make(0, PORT), 9);
        due(x.send(0, 3, 0, 8, 9), OK);
        due(x.close(0, 0), OK);
        due(x.receive(0, 5), 2);
        due(x.got(0, 1), 0);
        due(x.got(0, 2), 8);
        due(x.copy(0, 0, ALL), 9);
        due(x.close(0, 0), OK);
        due(x.spawn(0, 9), 0);
        due(x.make(2, EVENT), 1);
    }

    private static void allRightsIfNothingElseIsSaid() {
        Check.part("and all rights if nothing else is said");
        HandleKernel x = Scenes.oneOfEach();
        for (int place = 0; place < 6; place++) {
            due(x.info(0, place, 2), ALL);
        }
        due(x.restrict(0, 3, READ | COPY), READ | COPY);
        due(x.twin(0, 3), 6);
        due(x.info(0, 6, 2), ALL);
        // Where a handle was before with less rights, nothing of that is left.
        due(x.restrict(0, 2, 0), 0);
        due(x.close(0, 2), OK);
        due(x.make(0, EVENT), 2);
        due(x.info(0, 2, 2), ALL);
    }

    private interface Caller {
        long by(HandleKernel x, int process);
    }

    private static void noProcessComesFirst() {
        Check.part("NO_PROCESS (the process that calls is not there or not running)");
        Caller[] whole = {
            (x, p) -> x.make(p, EVENT), (x, p) -> x.make(p, 4), (x, p) -> x.copy(p, 2, ALL), (x, p) -> x.copy(p, 10, ALL),
            (x, p) -> x.restrict(p, 2, 0), (x, p) -> x.restrict(p, 10, 0), (x, p) -> x.close(p, 2), (x, p) -> x.close(p, 10),
            (x, p) -> x.signal(p, 2, 1, true), (x, p) -> x.signal(p, 10, 8, true), (x, p) -> x.send(p, 0, 1, 2, -1),
            (x, p) -> x.send(p, 10, 1, 10, 10), (x, p) -> x.receive(p, 0), (x, p) -> x.receive(p, 10),
            (x, p) -> x.store(p, 3, 0, 1), (x, p) -> x.store(p, 10, 8, 1), (x, p) -> x.twin(p, 3), (x, p) -> x.twin(p, 10),
            (x, p) -> x.watch(p, 2, 4, 1, 1), (x, p) -> x.watch(p, 10, 10, 1, 1), (x, p) -> x.spawn(p, -1),
            (x, p) -> x.spawn(p, 2), (x, p) -> x.spawn(p, 10), (x, p) -> x.kill(p, 5), (x, p) -> x.kill(p, 10),
            (x, p) -> x.info(p, 2, 0), (x, p) -> x.info(p, 10, 6), (x, p) -> x.info(p, -1, 0), (x, p) -> x.info(p, -1, 4),
        };
        Caller[] asLong = {
            (x, p) -> x.load(p, 3, 0), (x, p) -> x.load(p, 10, 8), (x, p) -> x.packet(p, 4, 0), (x, p) -> x.packet(p, 10, 4),
        };
        HandleKernel x = Scenes.oneOfEach();
        // Process 1 is killed, process 2 never ran, the others are not there.
        due(x.kill(0, 5), OK);
        for (int process : new int[] {1, 2, 3, 4, -1, LEAST, MOST}) {
            for (Caller call : whole) {
                due(call.by(x, process), NO_PROCESS);
            }
            for (Caller call : asLong) {
                due(call.by(x, process), LONG_REFUSAL + NO_PROCESS);
            }
        }
    }

    /** The first of the answers that is a refusal. */
    private static int first(int... answers) {
        for (int answer : answers) {
            if (answer != OK) {
                return answer;
            }
        }
        return OK;
    }

    private static void handlesOfSendInOrder() {
        Check.part("for the handles in the order of the arguments (send)");
        int[] handles = {0, 9, -1, 10, 2, 4};
        int[] ofHandle = {OK, BAD_HANDLE, BAD_HANDLE, BAD_HANDLE, WRONG_KIND, NO_RIGHT};
        int[] places = {-1, 2, 3, 9, -2, 10, 5};
        int[] ofPlace = {OK, OK, OK, BAD_HANDLE, BAD_HANDLE, BAD_HANDLE, NO_RIGHT};
        for (int h = 0; h < handles.length; h++) {
            for (int a = 0; a < places.length; a++) {
                for (int b = 0; b < places.length; b++) {
                    HandleKernel x = new HandleKernel();
                    x.make(0, CHANNEL);
                    x.make(0, EVENT);
                    x.make(0, MEMORY);
                    x.copy(0, 0, ALL - WRITE);
                    x.copy(0, 2, ALL - SEND);
                    int same = a == b && a != 0 ? BAD_VALUE : OK;
                    due(x.send(0, handles[h], 1, places[a], places[b]), first(ofHandle[h], ofPlace[a], ofPlace[b], same));
                }
            }
        }
    }

    private static void handlesOfWatchInOrder() {
        Check.part("for the handles in the order of the arguments (watch)");
        int[] handles = {0, 9, -1, 10, 1};
        int[] ofHandle = {OK, BAD_HANDLE, BAD_HANDLE, BAD_HANDLE, NO_RIGHT};
        int[] ports = {2, 9, -1, 10, 0, 3};
        int[] ofPort = {OK, BAD_HANDLE, BAD_HANDLE, BAD_HANDLE, WRONG_KIND, NO_RIGHT};
        for (int watches = 0; watches <= 12; watches += 12) {
            for (int h = 0; h < handles.length; h++) {
                for (int p = 0; p < ports.length; p++) {
                    HandleKernel x = new HandleKernel();
                    x.make(0, EVENT);
                    x.copy(0, 0, ALL - WATCH);
                    x.make(0, PORT);
                    x.copy(0, 2, ALL - WRITE);
                    for (int i = 0; i < watches; i++) {
                        x.watch(0, 0, 2, 1, i);
                    }
                    int full = watches == 12 ? FULL : OK;
                    due(x.watch(0, handles[h], ports[p], 1, 1), first(ofHandle[h], ofPort[p], full));
                }
            }
        }
    }

    private static void kindBeforeRight() {
        Check.part("each one's BAD_HANDLE (no handle there), WRONG_KIND, NO_RIGHT");
        HandleKernel x = Scenes.oneOfEach();
        for (int place = 0; place < 6; place++) {
            due(x.restrict(0, place, 0), 0);
        }
        int[] kinds = {END, END, EVENT, MEMORY, PORT, PROCESS, NO_ROOM};
        for (int place = 0; place <= 6; place++) {
            int none = place == 6 ? BAD_HANDLE : NO_RIGHT;
            due(x.copy(0, place, ALL), none);
            due(x.watch(0, place, 4, 1, 1), none);
            due(x.spawn(0, place), none);
            int other = place == 6 ? BAD_HANDLE : WRONG_KIND;
            due(x.signal(0, place, 8, true), kinds[place] == EVENT ? NO_RIGHT : other);
            due(x.send(0, place, 1, 9, 9), kinds[place] == END ? NO_RIGHT : other);
            due(x.receive(0, place), kinds[place] == END ? NO_RIGHT : other);
            due(x.load(0, place, 8), LONG_REFUSAL + (kinds[place] == MEMORY ? NO_RIGHT : other));
            due(x.store(0, place, 8, 1), kinds[place] == MEMORY ? NO_RIGHT : other);
            due(x.twin(0, place), kinds[place] == MEMORY ? NO_RIGHT : other);
            due(x.packet(0, place, 4), LONG_REFUSAL + (kinds[place] == PORT ? NO_RIGHT : other));
            due(x.packet(0, place, 3), LONG_REFUSAL + (kinds[place] == PORT ? NO_RIGHT : other));
            due(x.kill(0, place), kinds[place] == PROCESS ? NO_RIGHT : other);
        }
    }

    private static void othersAsTheyAreNamed() {
        Check.part("and then the others as they are named");
        HandleKernel x = Scenes.crowded(0);
        due(x.make(1, 4), BAD_VALUE);
        due(x.make(1, EVENT), FULL);
        due(x.spawn(1, -1), FULL);
        due(x.copy(1, 0, ALL), NO_ROOM);
        due(x.restrict(1, 0, ALL - COPY), ALL - COPY);
        due(x.copy(1, 0, ALL), NO_RIGHT);
        due(x.send(1, 0, 1, 2, 2), BAD_VALUE);
        due(x.send(1, 0, 1, 2, -1), FULL);

        HandleKernel y = Scenes.crowded(1);
        due(y.make(0, MEMORY), 0);
        Scenes.fillPlaces(y, 0, 0);
        due(y.twin(0, 0), FULL);
        due(y.spawn(0, -1), FULL);

        HandleKernel z = new HandleKernel();
        due(z.make(0, CHANNEL), 16);
        due(z.make(0, PORT), 2);
        due(z.packet(0, 2, 4), LONG_REFUSAL + BAD_VALUE);
        due(z.packet(0, 2, 0), LONG_REFUSAL + EMPTY);
        for (int place = 3; place < 6; place++) {
            due(z.spawn(0, -1), place);
        }
        Scenes.fillPlaces(z, 1, 0);
        due(z.receive(0, 0), EMPTY);
        due(z.spawn(0, -1), BAD_VALUE);
        due(z.close(0, 0), OK);
        due(z.send(0, 1, 1, 2, 2), BAD_VALUE);
        due(z.send(0, 1, 1, 2, -1), CLOSED);
        due(z.spawn(0, 0), BAD_HANDLE);
        for (int v = 0; v < 11; v++) {
            z.make(1, EVENT);
        }
        due(z.info(0, -1, 0), 15);
        due(z.make(2, EVENT), 0);
        due(z.copy(0, 1, ALL), 0);
        due(z.spawn(0, -1), BAD_VALUE);
        due(z.spawn(0, 2), BAD_VALUE);
    }

    private static void noHandleInAPlaceOrAMessage() {
        Check.part("as long as there is an object to which no handle refers (in a place or in a message that waits)");
        HandleKernel x = new HandleKernel();
        x.make(0, CHANNEL);
        due(x.make(0, EVENT), 2);
        due(x.copy(0, 2, 8), 3);
        due(x.close(0, 2), OK);
        due(x.info(0, -1, 0), 3);
        due(x.send(0, 0, 1, 3, -1), OK);
        due(x.info(0, -1, 0), 3);
        due(x.receive(0, 1), 1);
        due(x.info(0, 2, 1), 2);
        due(x.close(0, 2), OK);
        due(x.info(0, -1, 0), 2);
        // A watch is no handle.
        due(x.make(0, PORT), 2);
        due(x.make(0, EVENT), 3);
        due(x.watch(0, 3, 2, 1, 1), OK);
        due(x.close(0, 3), OK);
        due(x.info(0, -1, 0), 3);
        // An end that is in a message that waits for itself is there for good.
        due(x.send(0, 0, 1, 1, -1), OK);
        due(x.close(0, 2), OK);
        due(x.info(0, -1, 0), 2);
        due(x.close(0, 0), OK);
        due(x.info(0, -1, 0), 1);
        // So are two ends that are in each other's messages.
        due(x.make(0, CHANNEL), 16);
        due(x.copy(0, 0, ALL), 2);
        due(x.copy(0, 1, ALL), 3);
        due(x.send(0, 2, 1, 3, -1), OK);
        due(x.send(0, 1, 1, 0, -1), OK);
        due(x.close(0, 1), OK);
        due(x.close(0, 2), OK);
        due(x.info(0, -1, 0), 3);
    }

    private static void all16AreDestroyedAtOnce() {
        Check.part("as long as there is an object to which no handle refers (all 16)");
        HandleKernel x = new HandleKernel();
        due(x.make(0, CHANNEL), 16);
        due(x.spawn(0, 1), 1);
        due(x.send(0, 0, 0, 1, -1), OK);
        due(x.receive(1, 0), 1);
        due(x.close(0, 0), OK);
        due(x.make(1, CHANNEL), 16 * 3 + 2);
        for (int i = 0; i < 4; i++) {
            due(x.make(1, EVENT), 4);
            due(x.make(1, EVENT), 5);
            due(x.send(1, 2, 0, 4, 5), OK);
        }
        for (int place = 4; place < 8; place++) {
            due(x.make(1, PORT), place);
        }
        due(x.info(0, -1, 0), 16);
        // Process 1 has them all, itself among them.
        due(x.kill(1, 1), OK);
        due(x.info(0, -1, 0), 0);
        due(x.info(0, -1, 3), 17);
        due(x.make(0, EVENT), 0);
        due(x.info(0, 0, 1), 17);
    }

    private static void leastNumberFirst() {
        Check.part("that with the least number is destroyed");
        HandleKernel x = new HandleKernel();
        x.make(0, CHANNEL);
        x.make(0, CHANNEL);
        x.make(0, CHANNEL);
        x.make(0, PORT);
        for (int place = 4; place >= 0; place -= 2) {
            due(x.watch(0, place, 6, PEER_CLOSED, 10 + place), OK);
        }
        due(x.spawn(0, 3), 3);
        due(x.send(0, 2, 0, 5, -1), OK);
        due(x.receive(1, 0), 1);
        due(x.send(0, 2, 0, 1, -1), OK);
        // With process 1 go ends 3 and 5; end 1, in a message that waits for 3, is less than 5.
        due(x.kill(0, 3), OK);
        due(x.packet(0, 6, 3), 3);
        due(x.packet(0, 6, 0), 12);
        due(x.packet(0, 6, 0), 10);
        due(x.packet(0, 6, 0), 14);
        due(x.info(0, -1, 0), 5);
    }

    private static void watchesOfTheDestroyed() {
        Check.part("its watches are no more, and those to it if it is a port");
        HandleKernel x = new HandleKernel();
        x.make(0, PORT);
        x.make(0, PORT);
        x.make(0, EVENT);
        x.make(0, EVENT);
        due(x.watch(0, 2, 0, 1, 20), OK);
        due(x.watch(0, 3, 0, 1, 30), OK);
        due(x.watch(0, 3, 1, 1, 31), OK);
        due(x.watch(0, 0, 1, READABLE, 1), OK);
        due(x.watch(0, 1, 0, READABLE, 10), OK);
        due(x.watch(0, 0, 0, READABLE, 0), OK);
        due(x.info(0, -1, 1), 6);
        due(x.close(0, 2), OK);
        due(x.info(0, -1, 1), 5);
        due(x.copy(0, 0, 0), 2);
        due(x.close(0, 0), OK);
        due(x.info(0, -1, 1), 5);
        due(x.close(0, 2), OK);
        due(x.info(0, -1, 1), 1);
        due(x.make(0, PORT), 0);
        due(x.make(0, EVENT), 2);
        due(x.signal(0, 2, 0, true), 1);
        due(x.signal(0, 3, 0, true), 1);
        due(x.packet(0, 0, 3), 0);
        due(x.packet(0, 1, 0), 31);
        due(x.packet(0, 1, 3), 0);
        due(x.info(0, -1, 1), 0);
    }

    private static void endThatIsDestroyed() {
        Check.part("if it is an end, its peer becomes CLOSED, and its messages are no more, with the handles in them");
        HandleKernel x = new HandleKernel();
        x.make(0, CHANNEL);
        x.make(0, EVENT);
        x.make(0, EVENT);
        due(x.copy(0, 2, ALL), 4);
        for (int i = 0; i < 3; i++) {
            due(x.send(0, 0, i, -1, -1), OK);
        }
        due(x.send(0, 0, 3, 3, 4), OK);
        due(x.send(0, 1, 4, -1, -1), OK);
        due(x.info(0, 2, 4), 2);
        due(x.info(0, -1, 0), 4);
        due(x.close(0, 1), OK);
        due(x.info(0, 0, 3), READABLE | PEER_CLOSED);
        due(x.info(0, 0, 5), -1);
        due(x.info(0, 2, 4), 1);
        due(x.info(0, -1, 0), 2);
        // What waits for the end that stays is still there.
        due(x.receive(0, 0), 0);
        due(x.got(0, 0), 4);
        due(x.receive(0, 0), CLOSED);
        due(x.send(0, 0, 0, -1, -1), CLOSED);
        due(x.close(0, 0), OK);
        due(x.info(0, -1, 0), 1);
        // New ends have none of the old messages and are not CLOSED.
        due(x.make(0, CHANNEL), 16);
        due(x.receive(0, 0), EMPTY);
        due(x.receive(0, 1), EMPTY);
        due(x.info(0, 0, 3), 0);
        due(x.info(0, 1, 3), 0);
    }

    private static void processWithoutItsObject() {
        Check.part("(A process goes on running without its object.)");
        HandleKernel x = new HandleKernel();
        due(x.make(0, EVENT), 0);
        due(x.spawn(0, 0), 0);
        due(x.close(0, 0), OK);
        due(x.info(0, -1, 0), 1);
        due(x.info(0, -1, 2), 3);
        due(x.signal(1, 0, 0, true), 1);
        due(x.make(1, EVENT), 1);
        // It runs, so it is not free for another object.
        due(x.spawn(0, -1), 0);
        due(x.info(0, -1, 2), 7);
        due(x.kill(0, 0), OK);
        due(x.info(1, 0, 3), 1);
    }

    private static void atMost12Watches() {
        Check.part("WATCHES, at most 12");
        HandleKernel x = new HandleKernel();
        x.make(0, PORT);
        x.make(0, PORT);
        x.make(0, EVENT);
        x.make(0, EVENT);
        for (int key = 0; key < 12; key++) {
            due(x.info(0, -1, 1), key);
            due(x.watch(0, 2 + key % 2, key / 6, 1 << key % 8, key), OK);
        }
        due(x.info(0, -1, 1), 12);
        due(x.watch(0, 2, 0, 1, 12), FULL);
        due(x.watch(0, 3, 1, 0, 12), FULL);
        due(x.info(0, -1, 1), 12);
        // The twelfth is as good as the first; each one that ends leaves room for one.
        due(x.signal(0, 3, 3, true), 8);
        due(x.info(0, -1, 1), 10);
        due(x.packet(0, 0, 0), 3);
        due(x.packet(0, 1, 0), 11);
        due(x.watch(0, 2, 0, 128, 13), OK);
        due(x.watch(0, 2, 0, 128, 14), OK);
        due(x.watch(0, 2, 0, 128, 15), FULL);
        due(x.signal(0, 2, 7, true), 128);
        due(x.packet(0, 0, 0), 13);
        due(x.packet(0, 0, 0), 14);
        due(x.info(0, -1, 1), 10);
    }

    private static void asSoonAsASignalIsOneOfTheBits() {
        Check.part("As soon as a signal of the object is one of the bits .. the watch ends");
        HandleKernel x = new HandleKernel();
        x.make(0, PORT);
        x.make(0, EVENT);
        for (int signal = 0; signal < 8; signal++) {
            due(x.watch(0, 1, 0, 1 << signal, signal), OK);
            due(x.packet(0, 0, 3), 0);
            due(x.signal(0, 1, signal, true), 1 << signal);
            due(x.packet(0, 0, 3), 1);
            due(x.packet(0, 0, 0), signal);
            due(x.signal(0, 1, signal, false), 0);
            // It has ended: the signal makes no further packet.
            due(x.signal(0, 1, signal, true), 1 << signal);
            due(x.packet(0, 0, 3), 0);
            due(x.signal(0, 1, signal, false), 0);
        }
        due(x.watch(0, 1, 0, 2047 - 16, 99), OK);
        due(x.signal(0, 1, 4, true), 16);
        due(x.packet(0, 0, 3), 0);
        due(x.signal(0, 1, 4, false), 0);
        due(x.packet(0, 0, 3), 0);
        due(x.signal(0, 1, 7, true), 128);
        due(x.packet(0, 0, 0), 99);

        HandleKernel y = new HandleKernel();
        y.make(0, PORT);
        y.make(0, PORT);
        y.make(0, CHANNEL);
        due(y.spawn(0, -1), 4);
        due(y.watch(0, 2, 0, READABLE, 8), OK);
        due(y.watch(0, 2, 0, PEER_CLOSED, 9), OK);
        due(y.watch(0, 4, 0, DEAD, 10), OK);
        due(y.watch(0, 0, 1, READABLE, 11), OK);
        due(y.send(0, 3, 0, -1, -1), OK);
        due(y.info(0, -1, 1), 2);
        due(y.packet(0, 1, 0), 11);
        due(y.packet(0, 0, 0), 8);
        due(y.close(0, 3), OK);
        due(y.packet(0, 0, 0), 9);
        due(y.kill(0, 4), OK);
        due(y.packet(0, 0, 0), 10);
        due(y.info(0, -1, 1), 0);
    }

    private static void rightWhenItIsMade() {
        Check.part("(also right when it is made)");
        HandleKernel x = Scenes.oneOfEach();
        due(x.packet(0, 4, 0), 72);
        due(x.kill(0, 5), OK);
        int[] handles = {2, 0, 5};
        int[] bits = {1, READABLE, DEAD};
        for (int i = 0; i < 3; i++) {
            due(x.watch(0, handles[i], 4, bits[i], 50 + i), OK);
            due(x.info(0, -1, 1), i);
            due(x.packet(0, 4, 3), 1);
            due(x.packet(0, 4, 0), 50 + i);
            due(x.watch(0, handles[i], 4, 2047 - bits[i], 60 + i), OK);
            due(x.info(0, -1, 1), i + 1);
            due(x.packet(0, 4, 3), 0);
        }
        due(x.close(0, 1), OK);
        due(x.packet(0, 4, 0), 61);
        due(x.watch(0, 0, 4, PEER_CLOSED, 53), OK);
        due(x.packet(0, 4, 0), 53);
        due(x.info(0, -1, 1), 2);
    }

    private static void packetTellsTheSignalsThen() {
        Check.part("a PACKET (key, the object's number, its signals then)");
        HandleKernel x = new HandleKernel();
        x.make(0, PORT);
        for (int i = 0; i < 3; i++) {
            due(x.make(0, EVENT), 1);
            due(x.signal(0, 1, 1, true), 2);
            for (int part = 0; part < 3; part++) {
                due(x.watch(0, 1, 0, 4, 700 + i), OK);
            }
            due(x.signal(0, 1, 2, true), 6);
            due(x.signal(0, 1, 5, true), 38);
            due(x.signal(0, 1, 1, false), 36);
            // The packet goes on telling of the object when that is no more.
            due(x.close(0, 1), OK);
            due(x.packet(0, 0, 0), 700 + i);
            due(x.packet(0, 0, 1), 1 + i);
            due(x.packet(0, 0, 2), 6);
        }
    }

    private static void behindTheOthersIfLessThan6() {
        Check.part("is put behind the others of the port, if it has less than 6 (else it is lost)");
        HandleKernel x = new HandleKernel();
        x.make(0, PORT);
        x.make(0, PORT);
        x.make(0, EVENT);
        x.signal(0, 2, 0, true);
        for (int key = 0; key < 8; key++) {
            due(x.watch(0, 2, 0, 1, key), OK);
            due(x.info(0, -1, 1), 0);
            due(x.packet(0, 0, 3), key < 6 ? key + 1 : 6);
        }
        due(x.packet(0, 1, 3), 0);
        // One is taken and one put behind the others, over and over.
        for (int key = 0; key < 40; key++) {
            due(x.packet(0, 0, 0), key < 6 ? key : 100 + key - 6);
            due(x.packet(0, 0, 3), 5);
            due(x.watch(0, 2, 0, 1, 100 + key), OK);
            due(x.watch(0, 2, 0, 1, -1), OK);
            due(x.packet(0, 0, 3), 6);
        }
        // What was lost does not come back.
        for (int key = 34; key < 40; key++) {
            due(x.packet(0, 0, 0), 100 + key);
        }
        due(x.packet(0, 0, 0), LONG_REFUSAL + EMPTY);
        due(x.info(0, 0, 3), 0);
    }

    private static void firstMadeEndsFirst() {
        Check.part("As long as there are several such, that which was made first ends, with its packet");
        HandleKernel x = new HandleKernel();
        x.make(0, PORT);
        x.make(0, EVENT);
        x.make(0, EVENT);
        // Watches that end or go in between leave the order of the others.
        due(x.watch(0, 1, 0, 2, 1), OK);
        due(x.watch(0, 1, 0, 1, 2), OK);
        due(x.watch(0, 2, 0, 1, 3), OK);
        due(x.watch(0, 1, 0, 1, 4), OK);
        due(x.watch(0, 1, 0, 3, 5), OK);
        due(x.close(0, 2), OK);
        due(x.watch(0, 1, 0, 1, 6), OK);
        due(x.signal(0, 1, 0, true), 1);
        due(x.packet(0, 0, 3), 4);
        due(x.packet(0, 0, 0), 2);
        due(x.packet(0, 0, 0), 4);
        due(x.packet(0, 0, 0), 5);
        due(x.packet(0, 0, 0), 6);
        due(x.info(0, -1, 1), 1);
        due(x.signal(0, 1, 0, false), 0);
        for (int key = 7; key < 15; key++) {
            due(x.watch(0, 1, 0, 1, key), OK);
        }
        // The last ones find the port full.
        due(x.signal(0, 1, 0, true), 1);
        for (int key = 7; key < 13; key++) {
            due(x.packet(0, 0, 0), key);
        }
        due(x.packet(0, 0, 3), 0);
        due(x.info(0, -1, 1), 1);
    }

    private static void lookedAgain() {
        Check.part("and then it is looked again");
        HandleKernel x = new HandleKernel();
        x.make(0, PORT);
        x.make(0, PORT);
        x.make(0, PORT);
        x.make(0, EVENT);
        // The event's packet makes port 0 readable, whose packet makes port 1 readable, whose packet goes to port 2.
        due(x.watch(0, 1, 2, READABLE, 1), OK);
        due(x.watch(0, 0, 1, READABLE, 2), OK);
        due(x.watch(0, 3, 0, 1, 3), OK);
        due(x.watch(0, 3, 2, 1, 4), OK);
        due(x.signal(0, 3, 0, true), 1);
        due(x.info(0, -1, 1), 0);
        due(x.packet(0, 0, 0), 3);
        due(x.packet(0, 1, 0), 2);
        due(x.packet(0, 2, 0), 1);
        due(x.packet(0, 2, 0), 4);

        // A port that watches itself for its own packets, made readable by a watch that is met when it is made.
        HandleKernel y = new HandleKernel();
        y.make(0, PORT);
        y.make(0, EVENT);
        y.signal(0, 1, 0, true);
        for (int key = 0; key < 6; key++) {
            due(y.watch(0, 0, 0, READABLE, key), OK);
        }
        due(y.info(0, -1, 1), 6);
        due(y.watch(0, 1, 0, 1, 6), OK);
        due(y.info(0, -1, 1), 0);
        due(y.packet(0, 0, 0), 6);
        for (int key = 0; key < 5; key++) {
            due(y.packet(0, 0, 0), key);
        }
        due(y.packet(0, 0, 3), 0);
    }

    private static void beforeAnythingElse() {
        Check.part("this is done before anything else happens");
        // End 2 is destroyed before port 4, so port 4 still passes on that end 3 is CLOSED.
        HandleKernel x = new HandleKernel();
        x.make(0, CHANNEL);
        x.make(0, CHANNEL);
        x.make(0, PORT);
        x.make(0, PORT);
        due(x.watch(0, 3, 4, PEER_CLOSED, 1), OK);
        due(x.watch(0, 4, 5, READABLE, 2), OK);
        due(x.send(0, 0, 0, 4, 2), OK);
        due(x.close(0, 1), OK);
        due(x.packet(0, 5, 3), 1);
        due(x.packet(0, 5, 1), 4);
        due(x.info(0, -1, 0), 3);

        // Process 1 is DEAD while its port, that nobody else has, is still there.
        HandleKernel y = new HandleKernel();
        y.make(0, PORT);
        y.make(0, PORT);
        due(y.copy(0, 0, ALL), 2);
        due(y.spawn(0, 2), 2);
        due(y.watch(0, 2, 0, DEAD, 1), OK);
        due(y.watch(0, 0, 1, READABLE, 2), OK);
        due(y.close(0, 0), OK);
        due(y.kill(0, 2), OK);
        due(y.packet(0, 1, 0), 2);
        due(y.info(0, -1, 0), 2);
    }
}
